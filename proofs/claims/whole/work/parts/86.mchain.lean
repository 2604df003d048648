/-! The reference's chains -/
theorem mr_nbr {h : Hp} {R : Int → Nat → Int} (G : GI h R) (m : MR h h R) {u : Int} (hu : vOK h u) {k : Nat} (hk : (k : Int) < h 11 u) : (0 ≤ row h u k ∧ row h u k < 100) ∧ farF h (row h u k) u = nbr h u k := by
  refine ⟨mr_row G m hu hk, ?_⟩
  rw [mr_far G m hu hk]
  unfold nbr
  rw [sk_R G hu k hk]
/-- what a call of far answers, in a picture with the same rows -/
theorem far_at {h a : Hp} {R : Int → Nat → Int} (G : GI h R) (m : MR h h R) {u r : Int} (hu : vOK h u) {k : Nat} (hk : (k : Int) < h 11 u) (e31 : a 31 = h 31) (e32 : a 32 = h 32) (q : q_far (row h u k) u a r) : r = nbr h u k := by
  have q : r = farF a (row h u k) u := q
  rw [q, ← (mr_nbr G m hu hk).2]
  unfold farF
  rw [e31, e32]
def p_findChain (v x y : Int) (h : Hp) : Prop := Sy h ∧ vOK h v ∧ x = nc h 36 v ∧ ∀ w, vOK h w → (nc h 36 w = x ∨ nc h 36 w = y) → h 42 w ≠ 0
def MLi (h : Hp) (L : List Int) : Prop := ChI 30 40 43 20 h L
def q_findChain (v _ y : Int) (h h' : Hp) : Prop := MLi h' (CH h (nc h 36) v y) ∧ ∀ j, j ≠ 20 → h' 30 j = h 30 j
set_option maxHeartbeats 2000000 in
theorem ct_findChain {l : Launch} (v x y : Int) (h : Hp) (hb : p_findChain v x y h) : Ct l yX6_findChain cX6_findChain 8 none 1 22 0 [vr 30, vi v, vi x, vi y] h [30, 40, 43] (fun _ h1 => q_findChain v x y h h1) (fun _ => False) := by
  obtain ⟨⟨R, G, m⟩, hv, rfl, hh⟩ := hb
  have g1 := G.1
  have hv' := hv
  unfold vOK at hv'
  obtain ⟨ok, eok⟩ : ∃ ok, ok = okC (nc h 36) (nc h 36 v) y := ⟨_, rfl⟩
  have okt : ∀ w, ok w = true ↔ (nc h 36 w = nc h 36 v ∨ nc h 36 w = y) := fun w => by rw [eok]; exact okC_t
  refine w_X6_findChain _ p_far q_far
    (fun n g x1 x2 x3 x4 => x1 = v ∧ x2 = nc h 36 v ∧ x3 = y ∧ ∃ k : Nat, x4 = k ∧ k ≤ 30 ∧ (∀ w : Int, 0 ≤ w → w < k → g 43 w = 0) ∧ g 30 = h 30 ∧ n = 30 - k)
    (fun n g x2 x3 x4 => x2 = nc h 36 v ∧ x3 = y ∧ ∃ i : Nat, x4 = i ∧ i ≤ 30 ∧ MLi g (bfs ok h v i) ∧ (∀ j, j ≠ 20 → g 30 j = h 30 j) ∧ n = 30 - i)
    (fun n46 n g x2 x3 x4 x5 x6 => x2 = nc h 36 v ∧ x3 = y ∧ ∃ i k : Nat, x4 = i ∧ i < 30 ∧ (bfs ok h v i)[i]? = some x5 ∧ x6 = k ∧ (k : Int) ≤ h 11 x5 ∧ MLi g (addN ok h x5 k (bfs ok h v i)) ∧ (∀ j, j ≠ 20 → g 30 j = h 30 j) ∧ n46 = 30 - i ∧ n = 30 - k) h v (nc h 36 v) y ct_far ?_ ?_ ?_ (fun _ _ _ _ => ?_)
  · rintro n g x1 x2 x3 x4 - F - - - - ⟨rfl, rfl, rfl, k, rfl, i1, i2, i3, i4⟩
    unfold V_X6_findChain_3
    refine ⟨fun c => ⟨by omega, fun h33 e33 => ⟨by omega, fun h35 e35 h36 e36 z37 e37 => ⟨30, rfl, rfl, 0, e37, by omega, ?_, fun j hj => ?_, rfl⟩⟩⟩, fun c => ⟨by omega, fun h39 e39 => ⟨by unfold InR; omega, fun z ez => ⟨30 - (k + 1), by omega, rfl, rfl, rfl, k + 1, by omega, by omega, fun w w1 w2 => ?_, by rw [e39, hup_k (by decide)]; exact i3, rfl⟩⟩⟩⟩
    · refine ⟨by rw [e36, hup_s]; rfl, fun i hi => ?_, fun w w1 w2 => ?_⟩
      · have hi : i < 1 := hi
        have : i = 0 := by omega
        subst this
        rw [e36, hup_k (by decide), e35]
        show some x1 = some (hup h33 40 0 x1 40 0)
        rw [hup_s]
      · rw [e36, hup_k (by decide), e35, hup_k (by decide), e33, hup_k (by decide), F 1 (by decide)] at w2
        rw [e36, hup_k (by decide), e35, hup_k (by decide), e33]
        show _ = if w ∈ [x1] then (1 : Int) else 0
        by_cases z : w = x1
        · rw [z, hup_s, if_pos (List.mem_singleton.mpr rfl)]
        · rw [hup_o (fun q => z q.2), if_neg (fun q => z (List.mem_singleton.mp q))]
          exact i2 w w1 (by omega)
    · rw [e36, hup_o (fun z => hj z.2), e35, hup_k (by decide), e33, hup_k (by decide), i3]
    · rw [e39]
      by_cases z : w = k
      · rw [z, hup_s]
      · rw [hup_o (fun q => z q.2)]
        exact i2 w w1 (by omega)
  · rintro n g x2 x3 x4 - F - - - ⟨rfl, rfl, i, rfl, i1, i2, i3, i4⟩
    have vl := bfs_ok G (ok := ok) hv i
    have hl := VL_len G vl
    have e20 : g 30 20 = (bfs ok h v i).length := i2.1
    unfold V_X6_findChain_46
    refine ⟨fun c => ⟨?_, i3⟩, fun c => ⟨by omega, fun z29 e29 z30 e30 => ?_⟩⟩
    · have := bfs_stop (ok := ok) (h := h) (v := v) (i := i) (by omega) (30 - i)
      rw [show i + (30 - i) = 30 by omega] at this
      unfold CH
      rw [← eok, this]
      exact i2
    · have hi := i2.2.1 i (by omega)
      rw [← e29] at hi
      have hu := vl.2 _ (List.mem_of_getElem? hi)
      have hd := (G.deg hu).1
      exact ⟨30, rfl, rfl, i, 0, rfl, by omega, hi, e30, hd, i2, i3, i4, rfl⟩
  · rintro n46 n g x2 x3 x4 x5 x6 - F - - - - - ⟨rfl, rfl, i, k, rfl, i1, i2, rfl, i3, i4, i5, i6, i7⟩
    have vl := bfs_ok G (ok := ok) hv i
    have hu := vl.2 _ (List.mem_of_getElem? i2)
    have hu' := hu
    unfold vOK at hu'
    have md := mr_deg G m hu
    obtain ⟨a1, T, a2⟩ := addN_ok G (ok := ok) hu k i3 vl
    have next : (k : Int) < h 11 x5 → ∀ g', MLi g' (addN ok h x5 (k + 1) (bfs ok h v i)) → (∀ j, j ≠ 20 → g' 30 j = h 30 j) → V_X6_findChain_171 (fun _ h1 => q_findChain v (nc h 36 v) x3 h h1) p_far q_far
        (fun n g x1 a2 a3 x4 => x1 = v ∧ a2 = nc h 36 v ∧ a3 = x3 ∧ ∃ k : Nat, x4 = k ∧ k ≤ 30 ∧ (∀ w : Int, 0 ≤ w → w < k → g 43 w = 0) ∧ g 30 = h 30 ∧ n = 30 - k)
        (fun n g a2 a3 x4 => a2 = nc h 36 v ∧ a3 = x3 ∧ ∃ i : Nat, x4 = i ∧ i ≤ 30 ∧ MLi g (bfs ok h v i) ∧ (∀ j, j ≠ 20 → g 30 j = h 30 j) ∧ n = 30 - i)
        (fun n46 n g a2 a3 x4 x5 x6 => a2 = nc h 36 v ∧ a3 = x3 ∧ ∃ i k : Nat, x4 = i ∧ i < 30 ∧ (bfs ok h v i)[i]? = some x5 ∧ x6 = k ∧ (k : Int) ≤ h 11 x5 ∧ MLi g (addN ok h x5 k (bfs ok h v i)) ∧ (∀ j, j ≠ 20 → g 30 j = h 30 j) ∧ n46 = 30 - i ∧ n = 30 - k) n46 n g' (nc h 36 v) x3 i x5 k := by
      intro hk g' e1 e2
      unfold V_X6_findChain_171
      exact ⟨by unfold InR; omega, fun z ez => ⟨30 - (k + 1), by omega, rfl, rfl, i, k + 1, rfl, i1, i2, by omega, by omega, e1, e2, i6, rfl⟩⟩
    have same : ¬ (ok (nbr h x5 k) = true ∧ nbr h x5 k ∉ addN ok h x5 k (bfs ok h v i)) → MLi g (addN ok h x5 (k + 1) (bfs ok h v i)) := fun z => by
      have : addN ok h x5 (k + 1) (bfs ok h v i) = addN ok h x5 k (bfs ok h v i) := if_neg z
      rw [this]
      exact i4
    unfold V_X6_findChain_67
    rw [F 35 (by decide), md.1, F 34 (by decide)]
    refine ⟨by omega, fun c => ⟨by unfold InR; omega, fun z11 e11 => ⟨30 - (i + 1), by omega, rfl, rfl, i + 1, by omega, by omega, ?_, i5, rfl⟩⟩, fun c => ?_⟩
    · have : bfs ok h v (i + 1) = addN ok h x5 (h 11 x5).toNat (bfs ok h v i) := by
        show (match (bfs ok h v i)[i]? with
          | some u => addN ok h u (h 11 u).toNat (bfs ok h v i)
          | none => bfs ok h v i) = _
        rw [i2]
      rw [this, show (h 11 x5).toNat = k by omega]
      exact i4
    · have hk : (k : Int) < h 11 x5 := by omega
      have hr := (mr_nbr G m hu hk).1
      have hw := nbr_v G hu hk
      refine ⟨by unfold InR; omega, by unfold InR; omega, by omega, hr, fun r _ q z18 e18 => ?_⟩
      have q := far_at G m hu hk (F 31 (by decide)) (F 32 (by decide)) q
      have e18 := e18.trans q
      subst e18
      have hw' := hw
      unfold vOK at hw'
      have f43 := i4.2.2 (nbr h x5 k) hw'.1 (by rw [F 1 (by decide)]; exact hw'.2)
      rw [F 36 (by decide), F 42 (by decide), ← nc_v (k := 36) hw]
      have put : nbr h x5 k ∉ addN ok h x5 k (bfs ok h v i) → ok (nbr h x5 k) = true → V_X6_findChain_142 (fun _ h1 => q_findChain v (nc h 36 v) x3 h h1) p_far q_far
        (fun n g x1 a2 a3 x4 => x1 = v ∧ a2 = nc h 36 v ∧ a3 = x3 ∧ ∃ k : Nat, x4 = k ∧ k ≤ 30 ∧ (∀ w : Int, 0 ≤ w → w < k → g 43 w = 0) ∧ g 30 = h 30 ∧ n = 30 - k)
        (fun n g a2 a3 x4 => a2 = nc h 36 v ∧ a3 = x3 ∧ ∃ i : Nat, x4 = i ∧ i ≤ 30 ∧ MLi g (bfs ok h v i) ∧ (∀ j, j ≠ 20 → g 30 j = h 30 j) ∧ n = 30 - i)
        (fun n46 n g a2 a3 x4 x5 x6 => a2 = nc h 36 v ∧ a3 = x3 ∧ ∃ i k : Nat, x4 = i ∧ i < 30 ∧ (bfs ok h v i)[i]? = some x5 ∧ x6 = k ∧ (k : Int) ≤ h 11 x5 ∧ MLi g (addN ok h x5 k (bfs ok h v i)) ∧ (∀ j, j ≠ 20 → g 30 j = h 30 j) ∧ n46 = 30 - i ∧ n = 30 - k) n46 n g (nc h 36 v) x3 i x5 k (nbr h x5 k) := by
        intro n1 n2
        have hl := VL_lt G a1 hw n1
        have e7 : g 30 20 = (addN ok h x5 k (bfs ok h v i)).length := i4.1
        unfold V_X6_findChain_142
        refine ⟨by omega, fun h4 e4 => ?_⟩
        have k4 : h4 30 20 = g 30 20 := by rw [e4, hup_k (by decide)]
        rw [k4]
        refine ⟨by omega, fun h6 e6 => ?_⟩
        have k6 : h6 30 20 = g 30 20 := by rw [e6, hup_k (by decide), k4]
        rw [k6]
        refine ⟨by unfold InR; omega, fun h8 e8 => next hk h8 ?_ (fun j hj => ?_)⟩
        · have : addN ok h x5 (k + 1) (bfs ok h v i) = addN ok h x5 k (bfs ok h v i) ++ [nbr h x5 k] := if_pos ⟨n2, n1⟩
          rw [this]
          exact ChI_add i4 hw'.1 n1 (by rw [e8, e6, e4]) (by decide) (by decide) (by decide) (by decide) (by decide) (by decide)
        · rw [e8, hup_o (fun z => hj z.2), e6, hup_k (by decide), e4, hup_k (by decide)]
          exact i5 j hj
      refine ⟨by omega, fun c1 => next hk g (same ?_) i5, fun c1 => ⟨by omega, fun c2 => next hk g (same ?_) i5, fun c2 => ?_⟩⟩
      · intro z
        exact hh _ hw ((okt _).mp z.1) c1
      · intro z
        rw [f43, if_neg z.2] at c2
        exact c2 rfl
      · have n1 : nbr h x5 k ∉ addN ok h x5 k (bfs ok h v i) := by
          intro z
          rw [f43, if_pos z] at c2
          omega
        refine ⟨by omega, fun c3 => put n1 ((okt _).mpr (Or.inl c3)), fun c3 => ⟨by omega, fun c4 => next hk g (same ?_) i5, fun c4 => put n1 ((okt _).mpr (Or.inr c4))⟩⟩
        intro z
        rcases (okt _).mp z.1 with q | q
        · exact c3 q
        · exact c4 q
  · unfold V_X6_findChain
    exact fun z ez => ⟨30, rfl, rfl, rfl, 0, ez, by omega, fun w w1 w2 => by omega, rfl, rfl⟩
-- changeChain
def p_changeChain (x y : Int) (h : Hp) : Prop := Sy h ∧ (∃ L, MLi h L) ∧ (0 ≤ x ∧ x ≤ 5) ∧ (0 ≤ y ∧ y ≤ 5) ∧ CR (nc h 36)
def q_changeChain (x y : Int) (h h' : Hp) : Prop := ∀ L, MLi h L → VL h L → nc h' 36 = Sw (nc h 36) L x y
theorem ct_changeChain {l : Launch} (x y : Int) (h : Hp) (hb : p_changeChain x y h) : Ct l yX6_changeChain cX6_changeChain 4 none 0 0 0 [vr 30, vi x, vi y] h [36] (fun _ h1 => q_changeChain x y h h1) (fun _ => False) := by
  obtain ⟨⟨R, G, m⟩, ⟨L0, cl0⟩, hx, hy, cr⟩ := hb
  have g1 := G.1
  have m1 : h 30 1 = h 1 6 := m.1
  refine w_X6_changeChain _ (fun n g x1 x2 x3 => x1 = x ∧ x2 = y ∧ ∃ k : Nat, x3 = k ∧ (k : Int) ≤ h 1 6 ∧ (∀ w : Int, g 36 w = if 0 ≤ w ∧ w < k ∧ h 43 w ≠ 0 then x + y - h 36 w else h 36 w) ∧ n = 30 - k) h x y ?_ (fun _ _ _ => ?_)
  · rintro n g x1 x2 x3 - F - - - ⟨rfl, rfl, k, rfl, i1, i2, i3⟩
    unfold V_X6_changeChain_2 V_X6_changeChain_35
    rw [F 30 (by decide), m1, F 43 (by decide)]
    have ek : g 36 k = h 36 k := by rw [i2 k, if_neg (by omega)]
    rw [ek]
    refine ⟨fun c L cl vl => ?_, fun c => ?_⟩
    · funext u
      unfold Sw nc
      rw [F 1 (by decide)]
      by_cases hu : 0 ≤ u ∧ u < h 1 6
      · have f := cl.2.2 u hu.1 hu.2
        rw [if_pos hu, if_pos hu, i2 u]
        by_cases w : u ∈ L
        · rw [if_pos w] at f
          rw [if_pos w, if_pos ⟨hu.1, by omega, by omega⟩]
        · rw [if_neg w] at f
          rw [if_neg w, if_neg (fun z => z.2.2 f)]
      · rw [if_neg hu, if_neg hu, if_neg (fun z => hu (vl.2 u z))]
    · have hc := cr k
      rw [nc_v ⟨by omega, by omega⟩] at hc
      have step : ∀ w : Int, w ≠ k → ((0 ≤ w ∧ w < ((k + 1 : Nat) : Int) ∧ h 43 w ≠ 0) ↔ (0 ≤ w ∧ w < k ∧ h 43 w ≠ 0)) := fun w hw => by
        constructor
        · rintro ⟨a, b, c⟩; exact ⟨a, by omega, c⟩
        · rintro ⟨a, b, c⟩; exact ⟨a, by omega, c⟩
      refine ⟨by omega, fun c1 => ⟨by unfold InR; omega, fun z ez => ⟨30 - (k + 1), by omega, rfl, rfl, k + 1, by omega, by omega, fun w => ?_, rfl⟩⟩, fun c1 => ⟨by unfold InR; omega, by omega, by unfold InR; omega, by omega, fun h10 e10 => ⟨by unfold InR; omega, fun z ez => ⟨30 - (k + 1), by omega, rfl, rfl, k + 1, by omega, by omega, fun w => ?_, rfl⟩⟩⟩⟩
      · by_cases w1 : w = k
        · rw [w1, ek, if_neg (fun z => z.2.2 c1)]
        · rw [i2 w]
          by_cases z : 0 ≤ w ∧ w < k ∧ h 43 w ≠ 0
          · rw [if_pos z, if_pos ((step w w1).mpr z)]
          · rw [if_neg z, if_neg (fun q => z ((step w w1).mp q))]
      · rw [e10]
        by_cases w1 : w = k
        · rw [w1, hup_s, if_pos ⟨by omega, by omega, c1⟩]
        · rw [hup_o (fun q => w1 q.2), i2 w]
          by_cases z : 0 ≤ w ∧ w < k ∧ h 43 w ≠ 0
          · rw [if_pos z, if_pos ((step w w1).mpr z)]
          · rw [if_neg z, if_neg (fun q => z ((step w w1).mp q))]
  · unfold V_X6_changeChain
    exact fun z ez => ⟨30, rfl, rfl, 0, ez, by omega, fun w => by rw [if_neg (by omega)], rfl⟩
-- around
def HrI (h : Hp) (T : List Int) : Prop := ∀ v, 0 ≤ v → v < h 1 6 → h 42 v = if v ∈ T then 0 else 1
def p_around (v : Int) (h : Hp) : Prop := Sy h ∧ vOK h v
def q_around (v : Int) (h : Hp) (r : Int) : Prop := ∀ T, HrI h T → r = lef T h v
theorem ct_around {l : Launch} (v : Int) (h : Hp) (hb : p_around v h) : Ct l yX6_around cX6_around 4 (some .int) 1 22 0 [vr 30, vi v] h [] (fun r _ => q_around v h r) (fun _ => False) := by
  obtain ⟨⟨R, G, m⟩, hv⟩ := hb
  have g1 := G.1
  have md := mr_deg G m hv
  have hv' := hv
  unfold vOK at hv'
  refine w_X6_around _ p_far q_far (fun n g x1 x2 x3 => g = h ∧ x1 = v ∧ ∃ k : Nat, x3 = k ∧ (k : Int) ≤ h 11 v ∧ (0 ≤ x2 ∧ x2 ≤ k) ∧ (∀ T, HrI h T → x2 = cnt (fun k => nbr h v k.toNat ∉ T) k) ∧ n = 30 - k) h v ct_far ?_ (fun _ _ => ?_)
  · rintro n g x1 x2 x3 - F - - - ⟨rfl, rfl, k, rfl, i1, i2, i3, i4⟩
    unfold V_X6_around_4 V_X6_around_45
    rw [md.1]
    refine ⟨by omega, fun c T t => ?_, fun c => ?_⟩
    · unfold lef
      rw [i3 T t, show k = (g 11 x1).toNat by omega]
    · have hk : (k : Int) < g 11 x1 := by omega
      have hr := (mr_nbr G m hv hk).1
      have hw := nbr_v G hv hk
      refine ⟨by unfold InR; omega, by unfold InR; omega, by omega, hr, fun r _ q => ?_⟩
      have q := far_at G m hv hk rfl rfl q
      subst q
      have hw' := hw
      unfold vOK at hw'
      refine ⟨by omega, fun c1 z1 e1 => ⟨by unfold InR; omega, fun z ez => ⟨30 - (k + 1), by omega, rfl, rfl, k + 1, by omega, by omega, by omega, fun T t => ?_, rfl⟩⟩, fun c1 => ⟨by unfold InR; omega, fun z1 e1 => ⟨by unfold InR; omega, fun z ez => ⟨30 - (k + 1), by omega, rfl, rfl, k + 1, by omega, by omega, by omega, fun T t => ?_, rfl⟩⟩⟩⟩
      · rw [cnt_succ, if_neg (by
          show ¬ nbr g x1 k ∉ T
          intro z
          rw [t _ hw'.1 hw'.2, if_neg z] at c1
          omega), ← i3 T t]
        omega
      · rw [cnt_succ, if_pos (by
          show nbr g x1 k ∉ T
          intro z
          rw [t _ hw'.1 hw'.2, if_pos z] at c1
          exact c1 rfl), ← i3 T t]
        omega
  · unfold V_X6_around
    exact fun z0 e0 z1 e1 => ⟨30, rfl, rfl, 0, e1, by omega, by omega, fun T _ => e0, rfl⟩
/-- who is here has a colour, and the other way round -/
def HC (h : Hp) : Prop := ∀ w, vOK h w → (h 42 w = 0 ↔ nc h 36 w = 0)
-- freeColour
def p_free (v : Int) (h : Hp) : Prop := Sy h ∧ vOK h v ∧ HC h
def q_free (v : Int) (h : Hp) (r : Int) : Prop := Fre h (nc h 36) v r ∨ (r = 0 ∧ Nof h (nc h 36) v)
set_option maxHeartbeats 1000000 in
theorem ct_free {l : Launch} (v : Int) (h : Hp) (hb : p_free v h) : Ct l yX6_freeColour cX6_freeColour 6 (some .int) 1 22 0 [vr 30, vi v] h [] (fun r _ => q_free v h r) (fun _ => False) := by
  obtain ⟨⟨R, G, m⟩, hv, hc⟩ := hb
  have g1 := G.1
  have md := mr_deg G m hv
  have hv' := hv
  unfold vOK at hv'
  refine w_X6_freeColour _ p_far q_far
    (fun n g x1 x2 => g = h ∧ x1 = v ∧ (1 ≤ x2 ∧ x2 ≤ 6) ∧ (∀ x, 1 ≤ x → x < x2 → Us h (nc h 36) v x) ∧ n = (6 - x2).toNat)
    (fun n2 n g x1 x2 x3 x4 => g = h ∧ x1 = v ∧ (1 ≤ x2 ∧ x2 ≤ 5) ∧ (∀ x, 1 ≤ x → x < x2 → Us h (nc h 36) v x) ∧ n2 = (6 - x2).toNat ∧ ∃ k : Nat, x4 = k ∧ (k : Int) ≤ h 11 v ∧ (¬ x3 = 0 ↔ ∀ i : Nat, i < k → nc h 36 (nbr h v i) ≠ x2) ∧ n = 30 - k) h v ct_far ?_ ?_ (fun _ _ => ?_)
  · rintro n g x1 x2 - F - - ⟨rfl, rfl, i1, i2, i3⟩
    unfold V_X6_freeColour_2
    refine ⟨fun c => Or.inr ⟨rfl, fun x h1 h2 => i2 x h1 (by omega)⟩, fun c z21 e21 z22 e22 => ⟨30, rfl, rfl, by omega, i2, i3, 0, e22, by omega, ⟨fun _ i hi => absurd hi (Nat.not_lt_zero _), fun _ => by omega⟩, rfl⟩⟩
  · rintro n2 n g x1 x2 x3 x4 - F - - - - ⟨rfl, rfl, i1, i2, i3, k, rfl, i4, i5, i6⟩
    unfold V_X6_freeColour_13 V_X6_freeColour_72 V_X6_freeColour_68 V_X6_freeColour_73
    rw [md.1]
    refine ⟨by omega, fun c => ⟨fun c1 => ⟨by unfold InR; omega, fun z7 e7 => ⟨n2 - 1, by omega, rfl, rfl, by omega, fun x h1 h2 => ?_, by omega⟩⟩, fun c1 => Or.inl ⟨by omega, ?_, i2⟩⟩, fun c => ?_⟩
    · by_cases w : x = x2
      · rw [w]
        apply Classical.byContradiction
        intro z
        exact (i5.mpr (fun i hi e => z ⟨i, by omega, e⟩)) c1
      · exact i2 x h1 (by omega)
    · rintro ⟨i, hi, e⟩
      exact i5.mp c1 i (by omega) e
    · have hk : (k : Int) < g 11 x1 := by omega
      have hr := (mr_nbr G m hv hk).1
      have hw := nbr_v G hv hk
      refine ⟨by unfold InR; omega, by unfold InR; omega, by omega, hr, fun r _ q z14 e14 => ?_⟩
      have q := far_at G m hv hk rfl rfl q
      have e14 := e14.trans q
      subst e14
      have hw' := hw
      unfold vOK at hw'
      rw [← nc_v (k := 36) hw]
      have h0 := hc _ hw
      refine ⟨fun c1 z1 e1 => ⟨by unfold InR; omega, fun z ez => ⟨30 - (k + 1), by omega, rfl, rfl, i1, i2, i3, k + 1, by omega, by omega, ⟨fun z => absurd e1 z, fun z => absurd c1 (i5.mpr (fun i hi => z i (by omega)))⟩, rfl⟩⟩, fun c1 => ⟨by omega, fun c2 z1 e1 => ⟨by unfold InR; omega, fun z ez => ⟨30 - (k + 1), by omega, rfl, rfl, i1, i2, i3, k + 1, by omega, by omega, ⟨fun _ i hi => ?_, fun _ => by omega⟩, rfl⟩⟩, fun c2 => ⟨by omega, fun c3 z1 e1 => ⟨by unfold InR; omega, fun z ez => ⟨30 - (k + 1), by omega, rfl, rfl, i1, i2, i3, k + 1, by omega, by omega, ⟨fun z => absurd e1 z, fun z => absurd c3 (z k (by omega))⟩, rfl⟩⟩, fun c3 z1 e1 => ⟨by unfold InR; omega, fun z ez => ⟨30 - (k + 1), by omega, rfl, rfl, i1, i2, i3, k + 1, by omega, by omega, ⟨fun _ i hi => ?_, fun _ => by omega⟩, rfl⟩⟩⟩⟩⟩
      · by_cases w : i = k
        · rw [w, h0.mp c2]; omega
        · exact i5.mp c1 i (by omega)
      · by_cases w : i = k
        · rw [w]; exact c3
        · exact i5.mp c1 i (by omega)
  · unfold V_X6_freeColour
    exact fun z ez => ⟨5, rfl, rfl, by omega, fun x h1 h2 => by omega, by omega⟩

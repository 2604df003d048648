/-! Chains: neighbours round a vertex, the list that a walk through a chain makes, and how cells hold it -/
def nbr (g : Hp) (u : Int) (k : Nat) : Int := g 6 (tw (sk g u k))
theorem nbr_v {h : Hp} {R : Int → Nat → Int} (G : GI h R) {u : Int} (hu : vOK h u) {k : Nat} (hk : (k : Int) < h 11 u) : vOK h (nbr h u k) := by
  have hs := sk_S G hu hk
  exact (G.2.2.2.1 _ (Sd_tw hs.1)).1
theorem nbr_gs {h h' : Hp} (g : Gs h h') (u : Int) (k : Nat) : nbr h' u k = nbr h u k := by
  unfold nbr
  rw [Gs_sk g, g.2.1]
def addN (ok : Int → Bool) (g : Hp) (u : Int) : Nat → List Int → List Int
  | 0, L => L
  | k + 1, L => if ok (nbr g u k) = true ∧ nbr g u k ∉ addN ok g u k L then addN ok g u k L ++ [nbr g u k] else addN ok g u k L
def bfs (ok : Int → Bool) (g : Hp) (v : Int) : Nat → List Int
  | 0 => [v]
  | i + 1 => match (bfs ok g v i)[i]? with
    | some u => addN ok g u (g 11 u).toNat (bfs ok g v i)
    | none => bfs ok g v i
theorem addN_gs {h h' : Hp} (g : Gs h h') {ok : Int → Bool} {u : Int} : ∀ (k : Nat) (L : List Int), addN ok h' u k L = addN ok h u k L := by
  intro k
  induction k with
  | zero => intro L; rfl
  | succ k ih =>
    intro L
    unfold addN
    rw [ih, nbr_gs g]
theorem bfs_gs {h h' : Hp} (g : Gs h h') {ok : Int → Bool} {v : Int} : ∀ i : Nat, bfs ok h' v i = bfs ok h v i := by
  intro i
  induction i with
  | zero => rfl
  | succ i ih =>
    unfold bfs
    rw [ih, g.2.2.2.2.2.2]
    cases (bfs ok h v i)[i]? with
    | none => rfl
    | some u => exact addN_gs g _ _
/-- a list of vertices without repetition -/
def VL (h : Hp) (L : List Int) : Prop := L.Nodup ∧ ∀ w ∈ L, vOK h w
theorem VL_add {h : Hp} {L : List Int} {w : Int} (a : VL h L) (hw : vOK h w) (hn : w ∉ L) : VL h (L ++ [w]) := by
  refine ⟨?_, fun x hx => ?_⟩
  · unfold List.Nodup
    rw [List.pairwise_append]
    refine ⟨a.1, List.pairwise_singleton _ _, fun x hx y hy => ?_⟩
    rw [List.mem_singleton] at hy
    rw [hy]
    exact fun z => hn (z ▸ hx)
  · rw [List.mem_append, List.mem_singleton] at hx
    rcases hx with hx | hx
    · exact a.2 x hx
    · rw [hx]; exact hw
theorem VL_le {h : Hp} {L : List Int} (a : VL h L) : (L.length : Int) ≤ h 1 6 ∨ L = [] := by
  rcases L with - | ⟨x, T⟩
  · exact Or.inr rfl
  · left
    have hx := a.2 x (List.mem_cons_self ..)
    unfold vOK at hx
    have := inj_le (h 1 6).toNat (fun i => (x :: T).getD i 0) (x :: T).length (fun i hi => by
      have hm : (x :: T).getD i 0 ∈ (x :: T) := by
        rw [List.getD_eq_getElem?_getD, List.getElem?_eq_getElem hi]
        exact List.getElem_mem hi
      have := a.2 _ hm
      unfold vOK at this
      show 0 ≤ (x :: T).getD i 0 ∧ (x :: T).getD i 0 < _
      omega) (fun i j hi hj e => by
      have e : (x :: T).getD i 0 = (x :: T).getD j 0 := e
      rw [List.getD_eq_getElem?_getD, List.getElem?_eq_getElem hi, List.getD_eq_getElem?_getD, List.getElem?_eq_getElem hj] at e
      have e : (x :: T)[i] = (x :: T)[j] := e
      have P := List.pairwise_iff_getElem.mp a.1
      rcases Nat.lt_trichotomy i j with w | w | w
      · exact absurd e (P i j hi hj w)
      · exact w
      · exact absurd e.symm (P j i hj hi w))
    omega
theorem VL_len {h : Hp} {R : Int → Nat → Int} (G : GI h R) {L : List Int} (a : VL h L) : (L.length : Int) ≤ h 1 6 := by
  rcases VL_le a with w | w
  · exact w
  · rw [w]; have := G.1; show (0 : Int) ≤ _; omega
theorem VL_lt {h : Hp} {R : Int → Nat → Int} (G : GI h R) {L : List Int} {w : Int} (a : VL h L) (hw : vOK h w) (hn : w ∉ L) : (L.length : Int) < 30 := by
  have := VL_len G (VL_add a hw hn)
  rw [List.length_append] at this
  have h1 : ([w] : List Int).length = 1 := rfl
  have := G.1
  omega
theorem addN_ok {h : Hp} {R : Int → Nat → Int} (G : GI h R) {ok : Int → Bool} {u : Int} (hu : vOK h u) : ∀ (k : Nat) {L : List Int}, (k : Int) ≤ h 11 u → VL h L → VL h (addN ok h u k L) ∧ ∃ T, addN ok h u k L = L ++ T := by
  intro k
  induction k with
  | zero => intro L _ a; exact ⟨a, [], by rw [List.append_nil]; rfl⟩
  | succ k ih =>
    intro L hk a
    obtain ⟨b, T, e⟩ := ih (by omega) a
    unfold addN
    split
    · next c => exact ⟨VL_add b (nbr_v G hu (by omega)) c.2, T ++ [nbr h u k], by rw [e, List.append_assoc]⟩
    · exact ⟨b, T, e⟩
theorem bfs_ok {h : Hp} {R : Int → Nat → Int} (G : GI h R) {ok : Int → Bool} {v : Int} (hv : vOK h v) : ∀ i : Nat, VL h (bfs ok h v i) := by
  intro i
  induction i with
  | zero => exact ⟨List.pairwise_singleton _ _, fun w hw => by rw [show bfs ok h v 0 = [v] from rfl, List.mem_singleton] at hw; rw [hw]; exact hv⟩
  | succ i ih =>
    unfold bfs
    split
    · next u e =>
      have hu := ih.2 u (List.mem_of_getElem? e)
      have := (G.deg hu).1
      exact (addN_ok G hu _ (by omega) ih).1
    · exact ih
theorem bfs_stop {ok : Int → Bool} {h : Hp} {v : Int} {i : Nat} (hs : (bfs ok h v i).length ≤ i) : ∀ d : Nat, bfs ok h v (i + d) = bfs ok h v i := by
  intro d
  induction d with
  | zero => rfl
  | succ d ih =>
    show (match (bfs ok h v (i + d))[i + d]? with
      | some u => addN ok h u (h 11 u).toNat (bfs ok h v (i + d))
      | none => bfs ok h v (i + d)) = _
    rw [ih, List.getElem?_eq_none (by omega)]
theorem bfs_ok2 {ok : Int → Bool} {h : Hp} {R : Int → Nat → Int} (G : GI h R) {v : Int} (hv : vOK h v) (hok : ok v = true) : ∀ i : Nat, ∀ w ∈ bfs ok h v i, ok w = true := by
  intro i
  induction i with
  | zero => intro w hw; rw [show bfs ok h v 0 = [v] from rfl, List.mem_singleton] at hw; rw [hw]; exact hok
  | succ i ih =>
    unfold bfs
    split
    · next u e =>
      have key : ∀ (k : Nat) (L : List Int), (∀ w ∈ L, ok w = true) → ∀ w ∈ addN ok h u k L, ok w = true := by
        intro k
        induction k with
        | zero => intro L hL; exact hL
        | succ k ihk =>
          intro L hL w hw
          unfold addN at hw
          split at hw
          · next c =>
            rw [List.mem_append, List.mem_singleton] at hw
            rcases hw with hw | hw
            · exact ihk L hL w hw
            · rw [hw]; exact c.1
          · exact ihk L hL w hw
      exact key _ _ ih
    · exact ih
/-- cells that hold a list: its length at kc kj, its members in row kq, its marks in row kf -/
def ChI (kc kq kf : Nat) (kj : Int) (h : Hp) (L : List Int) : Prop := h kc kj = L.length ∧ (∀ i : Nat, i < L.length → L[i]? = some (h kq i)) ∧ ∀ v, 0 ≤ v → v < h 1 6 → h kf v = if v ∈ L then 1 else 0
theorem ChI_uniq {kc kq kf : Nat} {kj : Int} {h : Hp} {L L' : List Int} (a : ChI kc kq kf kj h L) (b : ChI kc kq kf kj h L') : L = L' := by
  obtain ⟨a1, a2, -⟩ := a
  obtain ⟨b1, b2, -⟩ := b
  refine List.ext_getElem? (fun i => ?_)
  by_cases w : i < L.length
  · rw [a2 i w, b2 i (by omega)]
  · rw [List.getElem?_eq_none (by omega), List.getElem?_eq_none (by omega)]
theorem ChI_add {kc kq kf : Nat} {kj : Int} {h h' : Hp} {L : List Int} {w : Int} (a : ChI kc kq kf kj h L) (hw : 0 ≤ w) (hn : w ∉ L) (e : h' = hup (hup (hup h kf w 1) kq (h kc kj) w) kc kj (h kc kj + 1)) (n1 : kc ≠ kq) (n2 : kc ≠ kf) (n3 : kq ≠ kf) (m1 : 1 ≠ kc) (m2 : 1 ≠ kq) (m3 : 1 ≠ kf) : ChI kc kq kf kj h' (L ++ [w]) := by
  obtain ⟨a1, a2, a3⟩ := a
  have k1 : h' 1 = h 1 := by rw [e, hup_k m1, hup_k m2, hup_k m3]
  have kq' : h' kq = hup h kq (h kc kj) w kq := by
    rw [e, hup_k n1.symm]
    funext b
    unfold hup
    simp only [n3, false_and, if_false, true_and]
  have kf' : h' kf = hup h kf w 1 kf := by rw [e, hup_k n2.symm, hup_k n3.symm]
  refine ⟨?_, fun i hi => ?_, fun v v1 v2 => ?_⟩
  · rw [e, hup_s, a1, List.length_append]
    rfl
  · rw [kq', a1]
    by_cases z : i = L.length
    · subst z
      rw [hup_s, List.getElem?_append_right (Nat.le_refl _), Nat.sub_self]
      rfl
    · have hl : i < L.length := by
        rw [List.length_append] at hi
        have : ([w] : List Int).length = 1 := rfl
        omega
      rw [hup_o (fun y => z (by have := y.2; omega)), List.getElem?_append_left hl]
      exact a2 i hl
  · rw [k1] at v2
    rw [kf']
    by_cases z : v = w
    · subst z
      rw [hup_s, if_pos (List.mem_append_right _ (List.mem_singleton.mpr rfl))]
    · rw [hup_o (fun y => z y.2), a3 v v1 v2]
      have : v ∈ L ++ [w] ↔ v ∈ L := by
        rw [List.mem_append, List.mem_singleton]
        exact ⟨fun y => y.resolve_right z, Or.inl⟩
      by_cases y : v ∈ L
      · rw [if_pos y, if_pos (this.mpr y)]
      · rw [if_neg y, if_neg (fun q => y (this.mp q))]
theorem ChI_cong {kc kq kf : Nat} {kj : Int} {h h' : Hp} {L : List Int} (a : ChI kc kq kf kj h L) (e1 : h' kc kj = h kc kj) (e2 : h' kq = h kq) (e3 : h' kf = h kf) (e4 : h' 1 6 = h 1 6) : ChI kc kq kf kj h' L := by
  unfold ChI
  rw [e1, e2, e3, e4]
  exact a
/-- colours of the vertices, nothing elsewhere -/
def nc (h : Hp) (k : Nat) : Int → Int := fun v => if 0 ≤ v ∧ v < h 1 6 then h k v else 0
theorem nc_v {h : Hp} {k : Nat} {v : Int} (hv : vOK h v) : nc h k v = h k v := if_pos hv
theorem nc_n {h : Hp} {k : Nat} {v : Int} (hv : ¬ vOK h v) : nc h k v = 0 := if_neg hv
def okC (c : Int → Int) (a b : Int) : Int → Bool := fun w => decide (c w = a ∨ c w = b)
theorem okC_t {c : Int → Int} {a b w : Int} : okC c a b w = true ↔ (c w = a ∨ c w = b) := decide_eq_true_iff
/-- the chain from a in the colours of a and y -/
def CH (g : Hp) (c : Int → Int) (a y : Int) : List Int := bfs (okC c (c a) y) g a 30
def upc (c : Int → Int) (v r : Int) : Int → Int := fun u => if u = v then r else c u
def Sw (c : Int → Int) (L : List Int) (x y : Int) : Int → Int := fun u => if u ∈ L then x + y - c u else c u
theorem nc_cong {h h' : Hp} {k : Nat} (e : h' k = h k) (e1 : h' 1 = h 1) : nc h' k = nc h k := by
  unfold nc
  rw [e, e1]
theorem nc_up {h h' : Hp} {k : Nat} {v r : Int} (hv : vOK h v) (e : h' = hup h k v r) (hk : 1 ≠ k) : nc h' k = upc (nc h k) v r := by
  funext u
  unfold nc upc
  rw [e, hup_k hk]
  by_cases z : u = v
  · subst z
    rw [hup_s, if_pos (show 0 ≤ u ∧ u < h 1 6 from hv), if_pos rfl]
  · rw [if_neg z, hup_o (fun y => z y.2)]

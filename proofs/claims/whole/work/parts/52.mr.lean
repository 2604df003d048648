/-! The reference's cells against a graph g with rings R -/
def MR (h g : Hp) (R : Int → Nat → Int) : Prop := h 30 1 = g 1 6 ∧ h 30 2 = g 1 7 ∧ h 30 3 = g 1 8 ∧ (∀ e, 0 ≤ e → e < g 1 7 → h 31 e = g 6 (2 * e) ∧ h 32 e = g 6 (2 * e + 1) ∧ h 33 e = 1 - g 9 e) ∧ ∀ v, 0 ≤ v → v < g 1 6 → h 35 v = g 11 v ∧ ∀ k : Nat, (k : Int) < g 11 v → row h v k = R v k / 2
def vOK (g : Hp) (v : Int) : Prop := 0 ≤ v ∧ v < g 1 6
def eOK (g : Hp) (e : Int) : Prop := (0 ≤ e ∧ e < g 1 7) ∧ g 9 e = 1
/-- which code edge has: 1 no such thing, 2 a wrong one, 3 too many, 0 -/
def ET (g : Hp) (a b ba bb : Int) : Prop := vOK g a ∧ vOK g b ∧ (ba = -1 ∨ eOK g ba) ∧ (bb = -1 ∨ eOK g bb)
def EA (g : Hp) (a b ba bb : Int) : Prop := a = b ∨ Jn g a b ∨ ¬ mayF g a ba ∨ ¬ mayF g b bb
def EC (g : Hp) (a b ba bb c : Int) : Prop := (c = 1 ∧ ¬ ET g a b ba bb) ∨ (c = 2 ∧ ET g a b ba bb ∧ EA g a b ba bb) ∨ (c = 3 ∧ ET g a b ba bb ∧ ¬ EA g a b ba bb ∧ g 1 7 = 100) ∨ (c = 0 ∧ ET g a b ba bb ∧ ¬ EA g a b ba bb ∧ g 1 7 < 100)
theorem EC_fun {g : Hp} {a b ba bb c d : Int} (x : EC g a b ba bb c) (y : EC g a b ba bb d) : c = d := by
  rcases x with ⟨x1, x2⟩ | ⟨x1, x2, x3⟩ | ⟨x1, x2, x3, x4⟩ | ⟨x1, x2, x3, x4⟩ <;> rcases y with ⟨y1, y2⟩ | ⟨y1, y2, y3⟩ | ⟨y1, y2, y3, y4⟩ | ⟨y1, y2, y3, y4⟩ <;> first | omega | exact absurd x2 y2 | exact absurd y2 x2 | exact absurd x3 y3 | exact absurd y3 x3
theorem mr_V {h g : Hp} {R : Int → Nat → Int} (m : MR h g R) {v : Int} : isV h v ↔ vOK g v := by
  unfold isV vOK
  rw [m.1]
theorem mr_E {h g : Hp} {R : Int → Nat → Int} (G : GI g R) (m : MR h g R) {e : Int} : isE h e ↔ eOK g e := by
  unfold isE eOK
  rw [m.2.1]
  constructor
  · rintro ⟨a, b⟩
    have := (m.2.2.2.1 e a.1 a.2).2.2
    exact ⟨a, by omega⟩
  · rintro ⟨a, b⟩
    have := (m.2.2.2.1 e a.1 a.2).2.2
    exact ⟨a, by omega⟩
/-- a side by its edge and its start -/
theorem half_inj {g : Hp} {R : Int → Nat → Int} (G : GI g R) {s t : Int} (hs : Sd g s) (ht : Sd g t) (e1 : g 6 s = g 6 t) (e2 : s / 2 = t / 2) : s = t := by
  have h1 := half_cases s _ e2
  have h2 := half_cases t _ rfl
  have n1 := (G.2.2.2.1 s hs).2
  rcases h1 with a | a <;> rcases h2 with b | b
  · omega
  · exfalso
    rw [a, tw_e] at n1
    rw [a] at e1
    exact n1 (by rw [e1, b]; congr 1; omega)
  · exfalso
    rw [a, tw_o] at n1
    rw [a] at e1
    exact n1 (by rw [e1, b]; congr 1; omega)
  · omega
theorem mr_far {h g : Hp} {R : Int → Nat → Int} (G : GI g R) (m : MR h g R) {v : Int} (hv : vOK g v) {k : Nat} (hk : (k : Int) < g 11 v) : farF h (row h v k) v = g 6 (tw (R v k)) := by
  have hs := (G.ring hv).2.2.1 k hk
  rw [(m.2.2.2.2 v hv.1 hv.2).2 k hk]
  have hb := hs.1
  have g2 := G.2.1
  obtain ⟨e, he⟩ : ∃ e, e = R v k / 2 := ⟨_, rfl⟩
  rw [← he]
  have hm := m.2.2.2.1 e (by have := hb.1; omega) (by have := hb.2.1; omega)
  unfold farF
  rw [hm.1, hm.2.1]
  have n1 := (G.2.2.2.1 _ hb).2
  rcases half_cases (R v k) e he.symm with a | a
  · rw [a] at hs n1 ⊢
    rw [tw_e, if_pos hs.2]
  · rw [a] at hs n1 ⊢
    rw [tw_o] at n1 ⊢
    rw [if_neg (fun z => n1 (by rw [z]; exact hs.2))]
theorem mr_deg {h g : Hp} {R : Int → Nat → Int} (G : GI g R) (m : MR h g R) {v : Int} (hv : vOK g v) : h 35 v = g 11 v ∧ 0 ≤ g 11 v ∧ g 11 v ≤ 29 := by
  have H := G.ring hv
  have g1 := G.1
  refine ⟨(m.2.2.2.2 v hv.1 hv.2).1, H.1, ?_⟩
  -- the far ends are different, and none is v itself
  have key := inj_le ((g 1 6).toNat - 1) (fun i => if g 6 (tw (R v i)) < v then g 6 (tw (R v i)) else g 6 (tw (R v i)) - 1) (g 11 v).toNat (fun i hi => by
    have a := (H.2.2.1 i (by omega))
    have b := (G.2.2.2.1 _ (Sd_tw a.1)).1
    have c := (G.2.2.2.1 _ a.1).2
    rw [a.2] at c
    have hv2 := hv.2
    have hv1 := hv.1
    show 0 ≤ (if g 6 (tw (R v i)) < v then g 6 (tw (R v i)) else g 6 (tw (R v i)) - 1) ∧ (if g 6 (tw (R v i)) < v then g 6 (tw (R v i)) else g 6 (tw (R v i)) - 1) < _
    split <;> omega) (fun i j hi hj e => by
    have a := H.2.2.1 i (by omega)
    have b := H.2.2.1 j (by omega)
    have ca := (G.2.2.2.1 _ a.1).2
    have cb := (G.2.2.2.1 _ b.1).2
    rw [a.2] at ca
    rw [b.2] at cb
    have e : (if g 6 (tw (R v i)) < v then g 6 (tw (R v i)) else g 6 (tw (R v i)) - 1) = (if g 6 (tw (R v j)) < v then g 6 (tw (R v j)) else g 6 (tw (R v j)) - 1) := e
    have e2 : g 6 (tw (R v i)) = g 6 (tw (R v j)) := by
      split at e <;> split at e <;> omega
    exact H.2.1 i j (by omega) (by omega) (G.2.2.2.2.1 _ _ a.1 b.1 (by rw [a.2, b.2]) e2))
  have := hv.1
  have := hv.2
  omega
theorem mr_row {h g : Hp} {R : Int → Nat → Int} (G : GI g R) (m : MR h g R) {v : Int} (hv : vOK g v) {k : Nat} (hk : (k : Int) < g 11 v) : 0 ≤ row h v k ∧ row h v k < 100 := by
  have hs := ((G.ring hv).2.2.1 k hk).1
  rw [(m.2.2.2.2 v hv.1 hv.2).2 k hk]
  have := Sd_lt G hs
  omega
theorem mr_row_inj {h g : Hp} {R : Int → Nat → Int} (G : GI g R) (m : MR h g R) {v : Int} (hv : vOK g v) {i j : Nat} (hi : (i : Int) < g 11 v) (hj : (j : Int) < g 11 v) (e : row h v i = row h v j) : i = j := by
  have H := G.ring hv
  have a := H.2.2.1 i hi
  have b := H.2.2.1 j hj
  rw [(m.2.2.2.2 v hv.1 hv.2).2 i hi, (m.2.2.2.2 v hv.1 hv.2).2 j hj] at e
  exact H.2.1 i j hi hj (half_inj G a.1 b.1 (by rw [a.2, b.2]) e)
theorem mr_Jn {h g : Hp} {R : Int → Nat → Int} (G : GI g R) (m : MR h g R) {a b : Int} (ha : vOK g a) : (∃ k : Nat, (k : Int) < h 35 a ∧ farF h (row h a k) a = b) ↔ Jn g a b := by
  have hd := (mr_deg G m ha).1
  have H := G.ring ha
  constructor
  · rintro ⟨k, k1, k2⟩
    rw [hd] at k1
    have s := H.2.2.1 k k1
    rw [mr_far G m ha k1] at k2
    exact ⟨R a k, s.1, s.2, k2⟩
  · rintro ⟨s, s1, s2, s3⟩
    obtain ⟨k, k1, k2⟩ := H.2.2.2.1 s s1 s2
    refine ⟨k, by rw [hd]; exact k1, ?_⟩
    rw [mr_far G m ha k1, k2]
    exact s3
/-- an edge that is there is round a vertex just if it starts or ends there -/
theorem mr_rnd {h g : Hp} {R : Int → Nat → Int} (G : GI g R) (m : MR h g R) {v e : Int} (hv : vOK g v) (he : e = -1 ∨ eOK g e) : rndF h v e ↔ mayF g v e := by
  have hd := (mr_deg G m hv).1
  have H := G.ring hv
  unfold rndF mayF
  constructor
  · rintro (z | ⟨k, k1, k2⟩)
    · exact Or.inl z
    · rw [hd] at k1
      have s := H.2.2.1 k k1
      have k2 : row h v k = e := k2
      rw [(m.2.2.2.2 v hv.1 hv.2).2 k k1] at k2
      rcases half_cases _ _ k2 with w | w
      · rw [w] at s; exact Or.inr (Or.inl s.2)
      · rw [w] at s; exact Or.inr (Or.inr s.2)
  · rintro (z | z | z)
    · exact Or.inl z
    · rcases he with w | w
      · exact Or.inl w
      · have sd := (Sd_e w.1 w.2).1
        obtain ⟨k, k1, k2⟩ := H.2.2.2.1 _ sd z
        refine Or.inr ⟨k, by rw [hd]; exact k1, ?_⟩
        show row h v k = e
        rw [(m.2.2.2.2 v hv.1 hv.2).2 k k1, k2]
        omega
    · rcases he with w | w
      · exact Or.inl w
      · have sd := (Sd_e w.1 w.2).2
        obtain ⟨k, k1, k2⟩ := H.2.2.2.1 _ sd z
        refine Or.inr ⟨k, by rw [hd]; exact k1, ?_⟩
        show row h v k = e
        rw [(m.2.2.2.2 v hv.1 hv.2).2 k k1, k2]
        omega
/-- the place behind an edge that is round v -/
theorem pl_ex {g : Hp} {R : Int → Nat → Int} (G : GI g R) {v e : Int} (hv : vOK g v) (he : e = -1 ∨ eOK g e) (hm : mayF g v e) : ∃ p, Pl g R v e p := by
  have H := G.ring hv
  by_cases w : e = -1
  · exact ⟨(g 11 v).toNat, Or.inl ⟨w, by have := H.1; omega⟩⟩
  · have he : eOK g e := he.resolve_left w
    have hs := Sd_e he.1 he.2
    rcases hm with z | z | z
    · exact absurd z w
    · obtain ⟨k, k1, k2⟩ := H.2.2.2.1 _ hs.1 z
      exact ⟨k + 1, Or.inr ⟨w, by omega, by omega, by rw [Nat.add_sub_cancel, k2]; omega⟩⟩
    · obtain ⟨k, k1, k2⟩ := H.2.2.2.1 _ hs.2 z
      exact ⟨k + 1, Or.inr ⟨w, by omega, by omega, by rw [Nat.add_sub_cancel, k2]; omega⟩⟩
theorem addOk_ex {g : Hp} {R : Int → Nat → Int} (G : GI g R) {a b ba bb : Int} (c : EC g a b ba bb 0) : ∃ p1 p2, AddOk g R a b ba bb p1 p2 := by
  have c : ET g a b ba bb ∧ ¬ EA g a b ba bb ∧ g 1 7 < 100 := by
    rcases c with ⟨c, -⟩ | ⟨c, -⟩ | ⟨c, -⟩ | ⟨-, c⟩
    · omega
    · omega
    · omega
    · exact c
  obtain ⟨⟨t1, t2, t3, t4⟩, na, nm⟩ := c
  have n1 : a ≠ b := fun z => na (Or.inl z)
  have n2 : ¬ Jn g a b := fun z => na (Or.inr (Or.inl z))
  have n3 : mayF g a ba := Classical.byContradiction fun z => na (Or.inr (Or.inr (Or.inl z)))
  have n4 : mayF g b bb := Classical.byContradiction fun z => na (Or.inr (Or.inr (Or.inr z)))
  obtain ⟨p1, q1⟩ := pl_ex G t1 t3 n3
  obtain ⟨p2, q2⟩ := pl_ex G t2 t4 n4
  exact ⟨p1, p2, G, t1, t2, n1, fun s s1 s2 s3 => n2 ⟨s, s1, s2, s3⟩, nm, q1, q2⟩
theorem mr_Pm {h g : Hp} {R : Int → Nat → Int} (G : GI g R) (m : MR h g R) {v b : Int} {p : Nat} (hv : vOK g v) (q : Pl g R v b p) : Pm h v b p := by
  have hd := (mr_deg G m hv).1
  rcases q with ⟨q1, q2⟩ | ⟨q1, q2, q3, q4⟩
  · exact Or.inl ⟨q1, by rw [hd]; exact q2⟩
  · have e : row h v (p - 1) = b := by rw [(m.2.2.2.2 v hv.1 hv.2).2 (p - 1) (by omega)]; exact q4
    refine Or.inr ⟨q1, q2, by rw [hd]; exact q3, e, fun k hk z => ?_⟩
    have := mr_row_inj G m hv (i := k) (j := p - 1) (by omega) (by omega) (by rw [z, e])
    omega

/-! The faces inside a cycle: what they are; the class's marks -/
noncomputable def fc0 (L : Int → Prop) (f : Int → Int) (s : Int) : Int := cntP L (Classical.epsilon (fun t => L t ∧ Orb f t s)).toNat
/-- the number of a side's face -/
noncomputable def fcF (h : Hp) : Int → Int := fc0 (LdF h) (ph h)
theorem fcF_gs {h h' : Hp} (g : Gs h h') : fcF h' = fcF h := by
  unfold fcF
  rw [g.L, g.P]
theorem fcF_eq {h : Hp} {R : Int → Nat → Int} (G : GI h R) {s t : Int} (ht : LdF h t) (o : Orb (ph h) t s) : fcF h s = cntP (LdF h) t.toNat := by
  have sp := Classical.epsilon_spec (p := fun t => LdF h t ∧ Orb (ph h) t s) ⟨t, ht, o⟩
  have := lead_uniq (ph_perm G) sp.1 ht (sp.2.trans (o.symm (ph_perm G) ht.1))
  unfold fcF fc0
  rw [this]
theorem fcF_ex {h : Hp} {R : Int → Nat → Int} (G : GI h R) {s : Int} (hs : Sd h s) : ∃ t, LdF h t ∧ Orb (ph h) t s ∧ fcF h s = cntP (LdF h) t.toNat := by
  obtain ⟨t, t1, t2, -⟩ := lead_ex (ph_perm G) hs
  exact ⟨t, t1, t2, fcF_eq G t1 t2⟩
theorem fcF_ph {h : Hp} {R : Int → Nat → Int} (G : GI h R) {s : Int} (hs : Sd h s) : fcF h (ph h s) = fcF h s := by
  obtain ⟨t, t1, t2, t3⟩ := fcF_ex G hs
  rw [t3]
  exact fcF_eq G t1 (t2.trans Orb.st)
theorem ld_r {h : Hp} {t : Int} (ht : LdF h t) : 0 ≤ t ∧ t < ((2 * h 1 7).toNat : Int) := by
  have := ht.1
  unfold Sd at this
  omega
theorem fcF_r {h : Hp} {R : Int → Nat → Int} (G : GI h R) {s : Int} (hs : Sd h s) : 0 ≤ fcF h s ∧ fcF h s < nF h := by
  obtain ⟨t, t1, t2, t3⟩ := fcF_ex G hs
  rw [t3]
  exact rank_lt (p := LdF h) (ld_r t1) t1
theorem fok_at {h h' : Hp} {R : Int → Nat → Int} (G : GI h R) (f : FOK h h') {s : Int} (hs : Sd h s) : h' 12 s = fcF h s := by
  obtain ⟨t, t1, t2, t3⟩ := fcF_ex G hs
  rw [t3]
  exact (f.2 t t1).2.2 s t2
theorem mfo_at {h h' : Hp} {R : Int → Nat → Int} (G : GI h R) (f : MFO h h') {s : Int} (hs : Sd h s) : h' 37 s = fcF h s := by
  obtain ⟨t, t1, t2, t3⟩ := fcF_ex G hs
  rw [t3]
  exact f.2 t t1 s t2
/-- faces that can be reached without crossing a C edge -/
def InF (h : Hp) (C : Int → Prop) (f0 f : Int) : Prop := ∀ P : Int → Prop, P f0 → (∀ s, Sd h s → ¬ C (s / 2) → P (fcF h s) → P (fcF h (tw s))) → P f
theorem InF.rf {h : Hp} {C : Int → Prop} {f : Int} : InF h C f f := fun _ p _ => p
theorem InF.st {h : Hp} {C : Int → Prop} {f s : Int} (hs : Sd h s) (hc : ¬ C (s / 2)) (a : InF h C f (fcF h s)) : InF h C f (fcF h (tw s)) := fun P p c => c s hs hc (a P p c)
theorem InF.iff {h : Hp} {C : Int → Prop} {f s : Int} (hs : Sd h s) (hc : ¬ C (s / 2)) : InF h C f (fcF h s) ↔ InF h C f (fcF h (tw s)) := by
  refine ⟨InF.st hs hc, fun a => ?_⟩
  have := InF.st (Sd_tw hs) (by rw [tw_div]; exact hc) a
  rw [tw_tw] at this
  exact this
theorem InF_cong {h h' : Hp} (g : Gs h h') {C C' : Int → Prop} (e : ∀ k, 0 ≤ k → k < h 1 7 → (C k ↔ C' k)) {f0 f : Int} : InF h C f0 f ↔ InF h' C' f0 f := by
  have key : ∀ s, Sd h s → (C (s / 2) ↔ C' (s / 2)) := fun s hs => e _ (by have := hs.1; omega) (by have := hs.2.1; omega)
  unfold InF
  rw [fcF_gs g, g.S]
  exact ⟨fun a P p c => a P p (fun s hs hc => c s hs (fun z => hc ((key s hs).mpr z))), fun a P p c => a P p (fun s hs hc => c s hs (fun z => hc ((key s hs).mp z)))⟩
/-- cells that hold a list of numbers below B -/
def ChB (kc kq kf : Nat) (kj B : Int) (h : Hp) (L : List Int) : Prop := h kc kj = L.length ∧ (∀ i : Nat, i < L.length → L[i]? = some (h kq i)) ∧ ∀ v, 0 ≤ v → v < B → h kf v = if v ∈ L then 1 else 0
theorem ChB_add {kc kq kf : Nat} {kj B : Int} {h h' : Hp} {L : List Int} {w : Int} (a : ChB kc kq kf kj B h L) (e : h' = hup (hup (hup h kf w 1) kq (h kc kj) w) kc kj (h kc kj + 1)) (n1 : kc ≠ kq) (n2 : kc ≠ kf) (n3 : kq ≠ kf) : ChB kc kq kf kj B h' (L ++ [w]) := by
  obtain ⟨a1, a2, a3⟩ := a
  have kq' : h' kq = hup h kq (h kc kj) w kq := by
    rw [e, hup_k n1.symm]
    funext b
    unfold hup
    simp only [n3, false_and, if_false, true_and]
  have kf' : h' kf = hup h kf w 1 kf := by rw [e, hup_k n2.symm, hup_k n3.symm]
  refine ⟨?_, fun i hi => ?_, fun v v1 v2 => ?_⟩
  · rw [e, hup_s, a1, List.length_append]
    rfl
  · rw [kq', a1]
    by_cases z : i = L.length
    · subst z
      rw [hup_s, List.getElem?_append_right (Nat.le_refl _), Nat.sub_self]
      rfl
    · have hl : i < L.length := by
        rw [List.length_append] at hi
        have : ([w] : List Int).length = 1 := rfl
        omega
      rw [hup_o (fun y => z (by have := y.2; omega)), List.getElem?_append_left hl]
      exact a2 i hl
  · rw [kf']
    exact mark_add (f := h kf) (a3 v v1 v2) (fun z => by rw [z, hup_s]) (fun z => by rw [hup_o (fun y => z y.2)])
theorem ChB_uniq {kc kq kf : Nat} {kj B : Int} {h : Hp} {L L' : List Int} (a : ChB kc kq kf kj B h L) (b : ChB kc kq kf kj B h L') : L = L' := by
  obtain ⟨a1, a2, -⟩ := a
  obtain ⟨b1, b2, -⟩ := b
  refine List.ext_getElem? (fun i => ?_)
  by_cases w : i < L.length
  · rw [a2 i w, b2 i (by omega)]
  · rw [List.getElem?_eq_none (by omega), List.getElem?_eq_none (by omega)]
/-- different numbers below B -/
def NL (B : Int) (L : List Int) : Prop := L.Nodup ∧ ∀ w ∈ L, 0 ≤ w ∧ w < B
theorem NL_add {B : Int} {L : List Int} {w : Int} (a : NL B L) (hw : 0 ≤ w ∧ w < B) (hn : w ∉ L) : NL B (L ++ [w]) := by
  refine ⟨?_, fun x hx => ?_⟩
  · unfold List.Nodup
    rw [List.pairwise_append]
    refine ⟨a.1, List.pairwise_singleton _ _, fun x hx y hy => ?_⟩
    rw [List.mem_singleton] at hy
    rw [hy]
    exact fun z => hn (z ▸ hx)
  · rw [List.mem_append, List.mem_singleton] at hx
    rcases hx with hx | hx
    · exact a.2 x hx
    · rw [hx]; exact hw
theorem NL_len {B : Int} {L : List Int} (a : NL B L) (hB : 0 ≤ B) : (L.length : Int) ≤ B := by
  have := inj_le B.toNat (fun i => L.getD i 0) L.length (fun i hi => by
    have hm : L.getD i 0 ∈ L := by
      rw [List.getD_eq_getElem?_getD, List.getElem?_eq_getElem hi]
      exact List.getElem_mem hi
    have := a.2 _ hm
    show 0 ≤ L.getD i 0 ∧ L.getD i 0 < _
    omega) (fun i j hi hj e => by
    have e : L.getD i 0 = L.getD j 0 := e
    rw [List.getD_eq_getElem?_getD, List.getElem?_eq_getElem hi, List.getD_eq_getElem?_getD, List.getElem?_eq_getElem hj] at e
    have e : L[i] = L[j] := e
    have P := List.pairwise_iff_getElem.mp a.1
    rcases Nat.lt_trichotomy i j with w | w | w
    · exact absurd e (P i j hi hj w)
    · exact w
    · exact absurd e.symm (P j i hj hi w))
  omega
theorem NL_lt {B : Int} {L : List Int} {w : Int} (a : NL B L) (hw : 0 ≤ w ∧ w < B) (hn : w ∉ L) : (L.length : Int) < B := by
  have := NL_len (NL_add a hw hn) (by omega)
  rw [List.length_append] at this
  have h1 : ([w] : List Int).length = 1 := rfl
  omega
-- addInside
def p_addInside (f : Int) (h : Hp) : Prop := (0 ≤ f ∧ f < 200) ∧ 0 ≤ h 5 7 ∧ h 5 7 < 200
def q_addInside (f : Int) (h h' : Hp) : Prop := h' = hup (hup (hup h 28 f 1) 29 (h 5 7) f) 5 7 (h 5 7 + 1)
theorem ct_addInside {l : Launch} (f : Int) (h : Hp) (hb : p_addInside f h) : Ct l yX3_addInside cX3_addInside 2 none 0 0 0 [vr 5, vi f] h [5, 28, 29] (fun _ h1 => q_addInside f h h1) (fun _ => False) := by
  obtain ⟨b1, b2⟩ := hb
  refine w_X3_addInside _ h f (fun _ _ => ?_)
  unfold V_X3_addInside
  refine ⟨b1, fun h2 e2 => ?_⟩
  have k2 : h2 5 7 = h 5 7 := by rw [e2, hup_k (by decide)]
  rw [k2]
  refine ⟨b2, fun h4 e4 => ?_⟩
  have k4 : h4 5 7 = h 5 7 := by rw [e4, hup_k (by decide), k2]
  rw [k4]
  refine ⟨by unfold InR; omega, fun h6 e6 => ?_⟩
  show h6 = _
  rw [e6, e4, e2]
def FLi (h : Hp) (L : List Int) : Prop := ChB 5 29 28 7 (nF h) h L
theorem FLi_cong {h h' : Hp} (g : Gs h h') {L : List Int} (a : ChB 5 29 28 7 (nF h) h' L) : FLi h' L := by
  unfold FLi
  rw [Gs_nF g]
  exact a
theorem FOK_gs {g g' h h' : Hp} (gs : Gs g g') (f : FOK g h) (e2 : h' 2 = h 2) (e12 : h' 12 = h 12) (e13 : h' 13 = h 13) (e14 : h' 14 = h 14) : FOK g' h' := by
  unfold FOK
  rw [gs.L, gs.P, gs.1, e2, e12, e13, e14]
  exact f
-- addFacesBeside
def p_beside (f : Int) (h : Hp) : Prop := (∃ R, GI h R) ∧ FOK h h ∧ (0 ≤ f ∧ f < nF h) ∧ ∃ L, FLi h L ∧ NL (nF h) L
def q_beside (f : Int) (h h' : Hp) : Prop := (∃ L T, FLi h L ∧ FLi h' (L ++ T) ∧ NL (nF h) (L ++ T) ∧ (∀ s, Sd h s → fcF h s = f → h 27 (s / 2) = 0 → fcF h (tw s) ∈ L ++ T) ∧ ∀ x ∈ L ++ T, x ∈ L ∨ ∃ s, Sd h s ∧ fcF h s = f ∧ h 27 (s / 2) = 0 ∧ x = fcF h (tw s)) ∧ ∀ j, j ≠ 7 → h' 5 j = h 5 j
set_option maxHeartbeats 1000000 in
theorem ct_beside {l : Launch} (f : Int) (h : Hp) (hb : p_beside f h) : Ct l yX3_addFacesBeside cX3_addFacesBeside 5 none 1 21 0 [vr 5, vi f] h [5, 28, 29] (fun _ h1 => q_beside f h h1) (fun _ => False) := by
  obtain ⟨⟨R, G⟩, fok, hf, L, fl, nl⟩ := hb
  have g2 := G.2.1
  have P := ph_perm G
  have nF0 := nF_le G
  obtain ⟨a, a1, ta, e⟩ := cntP_ex (p := LdF h) (2 * h 1 7).toNat f hf.1 hf.2
  obtain ⟨o1, ⟨n, pn, o2⟩, o3⟩ := fok.2 a ta
  have ea : ((a : Int)).toNat = a := by omega
  rw [ea, e] at o1 o2
  have hit : ∀ i : Nat, Sd h (itF (ph h) i a) := fun i => P.it ta.1 i
  have hfc : ∀ i : Nat, fcF h (itF (ph h) i a) = f := fun i => by
    rw [fcF_eq G ta ⟨i, rfl⟩, ea, e]
  have nle : n ≤ 200 := by
    obtain ⟨n', pn', hn'⟩ := P.per ta.1
    rw [pn.uniq pn']
    exact hn'
  refine w_X3_addFacesBeside _ p_addInside q_addInside p_sideBehind q_sideBehind
    (fun m g x1 x2 x3 => x1 = f ∧ ∃ i : Nat, x3 = i ∧ i ≤ n ∧ x2 = itF (ph h) i a ∧ (∃ T, ChB 5 29 28 7 (nF h) g (L ++ T) ∧ NL (nF h) (L ++ T) ∧ (∀ j : Nat, j < i → h 27 (itF (ph h) j a / 2) = 0 → fcF h (tw (itF (ph h) j a)) ∈ L ++ T) ∧ ∀ x ∈ L ++ T, x ∈ L ∨ ∃ s, Sd h s ∧ fcF h s = f ∧ h 27 (s / 2) = 0 ∧ x = fcF h (tw s)) ∧ (∀ j, j ≠ 7 → g 5 j = h 5 j) ∧ m = 200 - i) h f ct_addInside ct_sideBehind ?_ (fun _ _ => ?_)
  · rintro m g x1 x2 x3 - F - - - ⟨rfl, i, rfl, i1, rfl, ⟨T, t1, t2, t3, t4⟩, i5, i6⟩
    have gs : Gs h g := Gs.of F (by decide)
    have ls := Sd_lt G (hit i)
    have next : i < n → ∀ (g' : Hp) (T' : List Int), Fr [5, 28, 29] h g' → ChB 5 29 28 7 (nF h) g' (L ++ T') → NL (nF h) (L ++ T') → (∀ j : Nat, j < i + 1 → h 27 (itF (ph h) j a / 2) = 0 → fcF h (tw (itF (ph h) j a)) ∈ L ++ T') → (∀ x ∈ L ++ T', x ∈ L ∨ ∃ s, Sd h s ∧ fcF h s = x1 ∧ h 27 (s / 2) = 0 ∧ x = fcF h (tw s)) → (∀ j, j ≠ 7 → g' 5 j = h 5 j) → V_X3_addFacesBeside_65 (fun _ h1 => q_beside x1 h h1) p_addInside q_addInside p_sideBehind q_sideBehind
        (fun m g y1 x2 x3 => y1 = x1 ∧ ∃ i : Nat, x3 = i ∧ i ≤ n ∧ x2 = itF (ph h) i a ∧ (∃ T, ChB 5 29 28 7 (nF h) g (L ++ T) ∧ NL (nF h) (L ++ T) ∧ (∀ j : Nat, j < i → h 27 (itF (ph h) j a / 2) = 0 → fcF h (tw (itF (ph h) j a)) ∈ L ++ T) ∧ ∀ x ∈ L ++ T, x ∈ L ∨ ∃ s, Sd h s ∧ fcF h s = x1 ∧ h 27 (s / 2) = 0 ∧ x = fcF h (tw s)) ∧ (∀ j, j ≠ 7 → g 5 j = h 5 j) ∧ m = 200 - i) m g' x1 (itF (ph h) i a) i := by
      intro hi g' T' F' u1 u2 u3 u4 u5
      unfold V_X3_addFacesBeside_65
      refine ⟨ls, fun r2 _ q2 z3 e3 => ⟨by unfold InR; omega, fun z4 e4 => ⟨200 - (i + 1), by omega, rfl, i + 1, by omega, by omega, ?_, ⟨T', u1, u2, u3, u4⟩, u5, rfl⟩⟩⟩
      have q2 : r2 = g' 7 (tw (itF (ph h) i a)) := q2
      rw [e3, q2, F' 7 (by decide)]
      rfl
    unfold V_X3_addFacesBeside_12
    rw [F 14 (by decide), o2, jx1 ls, tdiv2 ls.1, F 27 (by decide), F 12 (by decide)]
    refine ⟨by omega, fun c => ⟨⟨L, T, fl, FLi_cong gs t1, t2, fun s hs e1 hc => ?_, t4⟩, i5⟩, fun c => ⟨tw_in2 ls, fun z9 e9 => ⟨⟨by omega, by unfold InR; omega⟩, by omega, ?_⟩⟩⟩
    · obtain ⟨t, lt, ot, et⟩ := fcF_ex G hs
      have hta : t = a := by
        refine rank_inj (p := LdF h) (ld_r lt).1 (by omega) lt ta ?_
        rw [← et, e1, ea, e]
      subst hta
      obtain ⟨j, j1, j2⟩ := pn.orb ot
      have := t3 j (by omega) (by rw [j2]; exact hc)
      rw [j2] at this
      exact this
    · have hsi := hit i
      have e9 : z9 = fcF h (tw (itF (ph h) i a)) := by rw [e9]; exact fok_at G fok (Sd_tw hsi)
      have hz := fcF_r G (Sd_tw hsi)
      rw [← e9] at hz
      have f28 := t1.2.2 z9 hz.1 hz.2
      refine ⟨fun c1 => next (by omega) g T F t1 t2 (fun j hj hc => ?_) t4 i5, fun c1 => ⟨by omega, fun c2 => next (by omega) g T F t1 t2 (fun j hj hc => ?_) t4 i5, fun c2 => ?_⟩⟩
      · by_cases w : j = i
        · rw [w] at hc; exact absurd hc c1
        · exact t3 j (by omega) hc
      · by_cases w : j = i
        · rw [w, ← e9]
          apply Classical.byContradiction
          intro z
          rw [f28, if_neg z] at c2
          exact c2 rfl
        · exact t3 j (by omega) hc
      · have nm : z9 ∉ L ++ T := fun z => by
          rw [f28, if_pos z] at c2
          omega
        have hl := NL_lt t2 hz nm
        have e7 : g 5 7 = (L ++ T).length := t1.1
        refine ⟨⟨by omega, by omega, by omega⟩, fun h16 f16 _ q16 => ?_⟩
        have q16 : h16 = hup (hup (hup g 28 z9 1) 29 (g 5 7) z9) 5 7 (g 5 7 + 1) := q16
        refine next (by omega) h16 (T ++ [z9]) (F.trans f16 (fun _ z => z)) ?_ ?_ (fun j hj hc => ?_) (fun x hx => ?_) (fun j hj => ?_)
        · rw [← List.append_assoc]
          exact ChB_add t1 q16 (by decide) (by decide) (by decide)
        · rw [← List.append_assoc]
          exact NL_add t2 hz nm
        · rw [← List.append_assoc]
          by_cases w : j = i
          · rw [w, ← e9]
            exact List.mem_append_right _ (List.mem_singleton.mpr rfl)
          · exact List.mem_append_left _ (t3 j (by omega) hc)
        · rw [← List.append_assoc, List.mem_append, List.mem_singleton] at hx
          rcases hx with hx | hx
          · exact t4 x hx
          · exact Or.inr ⟨_, hsi, hfc i, c1, by rw [hx, e9]⟩
        · rw [q16, hup_o (fun z => hj z.2), hup_k (by decide), hup_k (by decide)]
          exact i5 j hj
  · unfold V_X3_addFacesBeside
    exact ⟨by omega, fun z1 e1 z2 e2 => ⟨200, rfl, 0, e2, by omega, by rw [e1, o1]; rfl, ⟨[], by rw [List.append_nil]; exact fl, by rw [List.append_nil]; exact nl, fun j hj => absurd hj (Nat.not_lt_zero _), fun x hx => by rw [List.append_nil] at hx; exact Or.inl hx⟩, fun _ _ => rfl, rfl⟩⟩
-- markFacesInside
def p_mfi (f : Int) (h : Hp) : Prop := (∃ R, GI h R) ∧ FOK h h ∧ 0 ≤ f ∧ f < nF h
def q_mfi (f : Int) (h h' : Hp) : Prop := (∀ x, 0 ≤ x → x < nF h → (h' 28 x = 0 ↔ ¬ InF h (fun k => h 27 k ≠ 0) f x)) ∧ ∀ j, j ≠ 7 → h' 5 j = h 5 j
set_option maxHeartbeats 1000000 in
theorem ct_mfi {l : Launch} (f : Int) (h : Hp) (hb : p_mfi f h) : Ct l yX3_markFacesInside cX3_markFacesInside 3 none 2 45 0 [vr 5, vi f] h [5, 28, 29] (fun _ h1 => q_mfi f h h1) (fun _ => False) := by
  obtain ⟨⟨R, G⟩, fok, hf⟩ := hb
  have nF0 := nF_le G
  have e24 : h 2 4 = nF h := fok.1
  refine w_X3_markFacesInside _ p_addInside q_addInside p_beside q_beside
    (fun n g x1 x2 => x1 = f ∧ ∃ k : Nat, x2 = k ∧ (k : Int) ≤ nF h ∧ (∀ w : Int, 0 ≤ w → w < k → g 28 w = 0) ∧ g 5 = h 5 ∧ n = 200 - k)
    (fun n g x2 => ∃ (i : Nat) (L : List Int), x2 = i ∧ i ≤ L.length ∧ ChB 5 29 28 7 (nF h) g L ∧ NL (nF h) L ∧ f ∈ L ∧ (∀ x ∈ L, InF h (fun k => h 27 k ≠ 0) f x) ∧ (∀ j : Nat, j < i → ∀ y, L[j]? = some y → ∀ s, Sd h s → fcF h s = y → h 27 (s / 2) = 0 → fcF h (tw s) ∈ L) ∧ (∀ j, j ≠ 7 → g 5 j = h 5 j) ∧ n = 200 - i) h f ct_addInside ct_beside ?_ ?_ (fun _ _ => ?_)
  · rintro n g x1 x2 - F - - ⟨rfl, k, rfl, i1, i2, i3, i4⟩
    unfold V_X3_markFacesInside_2
    rw [F 2 (by decide), e24]
    refine ⟨fun c h9 e9 => ⟨⟨by omega, by rw [e9, hup_s]; omega⟩, fun h11 f11 _ q11 z12 e12 => ⟨200, 0, [x1], e12, by omega, ?_, ⟨List.pairwise_singleton _ _, fun w hw => by rw [List.mem_singleton.mp hw]; exact hf⟩, List.mem_singleton.mpr rfl, fun x hx => by rw [List.mem_singleton.mp hx]; exact InF.rf, fun j hj => absurd hj (Nat.not_lt_zero _), fun j hj => ?_, rfl⟩⟩, fun c => ⟨by omega, fun h14 e14 => ⟨by unfold InR; omega, fun z ez => ⟨200 - (k + 1), by omega, rfl, k + 1, by omega, by omega, fun w w1 w2 => ?_, by rw [e14, hup_k (by decide)]; exact i3, rfl⟩⟩⟩⟩
    · have c0 : ChB 5 29 28 7 (nF h) h9 [] := by
        refine ⟨by rw [e9, hup_s]; rfl, fun i hi => absurd hi (Nat.not_lt_zero _), fun w w1 w2 => ?_⟩
        rw [e9, hup_k (by decide), i2 w w1 (by omega), if_neg List.not_mem_nil]
      exact ChB_add c0 q11 (by decide) (by decide) (by decide)
    · have q11 : h11 = hup (hup (hup h9 28 x1 1) 29 (h9 5 7) x1) 5 7 (h9 5 7 + 1) := q11
      rw [q11, hup_o (fun z => hj z.2), hup_k (by decide), hup_k (by decide), e9, hup_o (fun z => hj z.2), i3]
    · rw [e14]
      by_cases z : w = k
      · rw [z, hup_s]
      · rw [hup_o (fun q => z q.2)]
        exact i2 w w1 (by omega)
  · rintro n g x2 - F - ⟨i, L, rfl, i0, i1, i2, i3, i4, i5, i6, i7⟩
    have gs : Gs h g := Gs.of F (by decide)
    have hl := NL_len i2 (by omega)
    have e7 : g 5 7 = L.length := i1.1
    have k27 : g 27 = h 27 := F 27 (by decide)
    have fokg : FOK g g := FOK_gs gs fok (F 2 (by decide)) (F 12 (by decide)) (F 13 (by decide)) (F 14 (by decide))
    have stop : L.length ≤ i → q_mfi f h g := by
      intro c
      refine ⟨fun x h1 h2 => ?_, i6⟩
      have inL : InF h (fun k => h 27 k ≠ 0) f x → x ∈ L := fun a => a (fun y => y ∈ L) i3 (fun s hs hc hm => by
        obtain ⟨j, hj⟩ := List.mem_iff_getElem?.mp hm
        have := (List.getElem?_eq_some_iff.mp hj).1
        exact i5 j (by omega) _ hj s hs rfl (Classical.byContradiction hc))
      rw [i1.2.2 x h1 h2]
      by_cases w : x ∈ L
      · rw [if_pos w]
        exact ⟨fun z => absurd z (by decide), fun z => absurd (i4 x w) z⟩
      · rw [if_neg w]
        exact ⟨fun _ z => w (inL z), fun _ => rfl⟩
    unfold V_X3_markFacesInside_38 V_X3_markFacesInside_69
    refine ⟨fun c => stop (by omega), fun c => ⟨fun c1 => stop (by omega), fun c1 => ⟨by omega, ?_, fun h5 f5 _ q5 => ⟨by unfold InR; omega, fun z ez => ?_⟩⟩⟩⟩
    · have hi := i1.2.1 i (by omega)
      have hm := i2.2 _ (List.mem_of_getElem? hi)
      exact ⟨⟨R, Gs_GI gs G⟩, fokg, by rw [Gs_nF gs]; exact hm, L, FLi_cong gs i1, by rw [Gs_nF gs]; exact i2⟩
    · obtain ⟨⟨L', T, l1, l2, l3, l4, l5⟩, l6⟩ := q5
      have eL : L' = L := ChB_uniq l1 (FLi_cong gs i1)
      subst eL
      have hi := i1.2.1 i (by omega)
      unfold FLi at l2
      have gs5 : Gs h h5 := gs.tr (Gs.of f5 (by decide))
      rw [Gs_nF gs5] at l2
      rw [Gs_nF gs] at l3
      rw [fcF_gs gs, gs.S, k27] at l4 l5
      refine ⟨200 - (i + 1), by omega, i + 1, L' ++ T, by omega, by rw [List.length_append]; omega, l2, l3, List.mem_append_left _ i3, fun x hx => ?_, fun j hj y hy s hs ey hc => ?_, fun j hj => by rw [l6 j hj]; exact i6 j hj, rfl⟩
      · rcases l5 x hx with q | ⟨s, hs, es, hc, ex⟩
        · exact i4 x q
        · rw [ex]
          refine InF.st hs (fun z => z hc) ?_
          rw [es]
          exact i4 _ (List.mem_of_getElem? hi)
      · by_cases w : j = i
        · subst w
          rw [List.getElem?_append_left (by omega), hi] at hy
          rw [← Option.some.inj hy] at ey
          exact l4 s hs ey hc
        · rw [List.getElem?_append_left (by omega)] at hy
          exact List.mem_append_left _ (i5 j (by omega) y hy s hs ey hc)
  · unfold V_X3_markFacesInside
    exact fun z ez => ⟨200, rfl, 0, ez, by omega, fun w w1 w2 => by omega, rfl, rfl⟩
-- countVertices
def p_countV (p : Int) (h : Hp) : Prop := (∃ R, GI h R) ∧ FOK h h ∧ ∀ v, vOK h v → h 18 v = p → h 26 v = 0 → 0 < h 11 v
def cvI (h : Hp) (p : Int) (v : Int) : Prop := h 18 v = p ∧ h 26 v = 0 ∧ h 28 (h 12 (h 10 v)) ≠ 0
def cvO (h : Hp) (p : Int) (v : Int) : Prop := h 18 v = p ∧ h 26 v = 0 ∧ h 28 (h 12 (h 10 v)) = 0
def q_countV (p : Int) (h h' : Hp) : Prop := h' 5 9 = cntP (cvI h p) (h 1 6).toNat ∧ h' 5 10 = cntP (cvO h p) (h 1 6).toNat ∧ ∀ j, j ≠ 9 → j ≠ 10 → h' 5 j = h 5 j
set_option maxHeartbeats 1000000 in
theorem ct_countV {l : Launch} (p : Int) (h : Hp) (hb : p_countV p h) : Ct l yX3_countVertices cX3_countVertices 3 none 0 0 0 [vr 5, vi p] h [5] (fun _ h1 => q_countV p h h1) (fun _ => False) := by
  obtain ⟨⟨R, G⟩, fok, hp⟩ := hb
  have g1 := G.1
  have nF0 := nF_le G
  refine w_X3_countVertices _ (fun n g x1 x2 => x1 = p ∧ ∃ k : Nat, x2 = k ∧ (k : Int) ≤ h 1 6 ∧ g 5 9 = cntP (cvI h p) k ∧ g 5 10 = cntP (cvO h p) k ∧ (∀ j, j ≠ 9 → j ≠ 10 → g 5 j = h 5 j) ∧ n = 30 - k) h p ?_ (fun _ _ => ?_)
  · rintro n g x1 x2 - F - - ⟨rfl, k, rfl, i1, i2, i3, i4, i5⟩
    have c1 := cntP_le (cvI h x1) k
    have c2 := cntP_le (cvO h x1) k
    unfold V_X3_countVertices_12 V_X3_countVertices_96
    rw [F 1 (by decide), F 18 (by decide), F 26 (by decide), F 10 (by decide), F 12 (by decide), F 28 (by decide)]
    refine ⟨fun c => ?_, fun c => ?_⟩
    · have : (h 1 6).toNat = k := by omega
      show q_countV x1 h g
      unfold q_countV
      rw [this]
      exact ⟨i2, i3, i4⟩
    · have vk : vOK h k := ⟨by omega, by omega⟩
      refine ⟨by omega, fun d => ⟨by unfold InR; omega, fun z ez => ⟨30 - (k + 1), by omega, rfl, k + 1, by omega, by omega, by rw [cntP_f (p := cvI h x1) (fun z => d z.1)]; exact i2, by rw [cntP_f (p := cvO h x1) (fun z => d z.1)]; exact i3, i4, rfl⟩⟩, fun d => ⟨by omega, fun d1 => ?_, fun d1 => ⟨by unfold InR; omega, fun z ez => ⟨30 - (k + 1), by omega, rfl, k + 1, by omega, by omega, by rw [cntP_f (p := cvI h x1) (fun z => d1 z.2.1)]; exact i2, by rw [cntP_f (p := cvO h x1) (fun z => d1 z.2.1)]; exact i3, i4, rfl⟩⟩⟩⟩
      have hd := hp k vk d d1
      have hs := sk_S G vk (k := 0) (by omega)
      have hs1 : Sd h (h 10 k) := hs.1
      have ls := Sd_lt G hs1
      have e12 := fok_at G fok hs1
      have hr := fcF_r G hs1
      refine ⟨by omega, ls, by rw [e12]; omega, fun d2 => ⟨by rw [i3]; unfold InR; omega, fun h13 e13 => ⟨by unfold InR; omega, fun z ez => ⟨30 - (k + 1), by omega, rfl, k + 1, by omega, by omega, ?_, ?_, fun j j1 j2 => ?_, rfl⟩⟩⟩, fun d2 => ⟨by rw [i2]; unfold InR; omega, fun h15 e15 => ⟨by unfold InR; omega, fun z ez => ⟨30 - (k + 1), by omega, rfl, k + 1, by omega, by omega, ?_, ?_, fun j j1 j2 => ?_, rfl⟩⟩⟩⟩
      · rw [cntP_f (p := cvI h x1) (fun z => z.2.2 d2), e13, hup_o (fun z => by have := z.2; omega)]
        exact i2
      · rw [cntP_t (p := cvO h x1) ⟨d, d1, d2⟩, e13, hup_s, i3]
      · rw [e13, hup_o (fun z => j2 z.2)]
        exact i4 j j1 j2
      · rw [cntP_t (p := cvI h x1) ⟨d, d1, d2⟩, e15, hup_s, i2]
      · rw [cntP_f (p := cvO h x1) (fun z => d2 z.2.2), e15, hup_o (fun z => by have := z.2; omega)]
        exact i3
      · rw [e15, hup_o (fun z => j1 z.2)]
        exact i4 j j1 j2
  · unfold V_X3_countVertices
    exact fun h16 e16 h17 e17 z ez => ⟨30, rfl, 0, ez, by omega, by rw [e17, hup_o (fun z => by have := z.2; omega), e16, hup_s]; rfl, by rw [e17, hup_s]; rfl, fun j j1 j2 => by rw [e17, hup_o (fun z => j2 z.2), e16, hup_o (fun z => j1 z.2)], rfl⟩

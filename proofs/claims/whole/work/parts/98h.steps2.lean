/-! Class and reference: the calls that change graph or colours -/
theorem MR_47 {h h' g : Hp} {R : Int → Nat → Int} {M : List Nat} (m : MR h g R) (f : Fr M h h') (hM : ∀ k ∈ [30, 31, 32, 33, 34, 35], k ∉ M) : MR h' g R :=
  MR_cong m (by rw [f 30 (hM 30 (by decide))]) (by rw [f 30 (hM 30 (by decide))]) (by rw [f 30 (hM 30 (by decide))]) (f 31 (hM 31 (by decide))) (f 32 (hM 32 (by decide))) (f 33 (hM 33 (by decide))) (f 34 (hM 34 (by decide))) (f 35 (hM 35 (by decide))) rfl rfl rfl rfl
theorem MR_gs {h g g' : Hp} {R : Int → Nat → Int} (m : MR h g R) (gs : Gs g g') : MR h g' R := MR_cong m rfl rfl rfl rfl rfl rfl rfl rfl gs.1 gs.2.1 gs.2.2.2.2.1 gs.2.2.2.2.2.2
theorem CR_0 : CR (fun _ => 0) := fun v => by show (0 : Int) ≤ 0 ∧ (0 : Int) ≤ 5; omega
/-- a new graph picture g: everything else follows -/
theorem ALL_new {g h2 : Hp} {R : Int → Nat → Int} (G : GI g R) (gs : Gs g h2) (fok : FOK h2 h2) (ts : TS h2) (m : MR h2 g R) (cr : CR (nc h2 20)) (x : 0 ≤ h2 4 8 ∧ h2 4 8 ≤ 30) (e : nc h2 36 = nc h2 20) (e10 : h2 30 10 = h2 4 8) : ALL h2 := ⟨⟨R, Gs_GI gs G, MR_gs m gs⟩, fok, ts, cr, x, e, e10⟩
theorem fok_up {hc h2 : Hp} {M : List Nat} (fok : FOK hc hc) (f : Fr M hc h2) (hM : ∀ k ∈ [1, 2, 3, 6, 7, 8, 9, 10, 11, 12, 13, 14, 15, 16, 17, 18], k ∉ M) : FOK h2 h2 :=
  FOK_gs ⟨f 1 (hM 1 (by decide)), f 6 (hM 6 (by decide)), f 7 (hM 7 (by decide)), f 8 (hM 8 (by decide)), f 9 (hM 9 (by decide)), f 10 (hM 10 (by decide)), f 11 (hM 11 (by decide))⟩ fok (f 2 (hM 2 (by decide))) (f 12 (hM 12 (by decide))) (f 13 (hM 13 (by decide))) (f 14 (hM 14 (by decide)))
theorem gs_up {hc h2 : Hp} {M : List Nat} (f : Fr M hc h2) (hM : ∀ k ∈ [1, 2, 3, 6, 7, 8, 9, 10, 11, 12, 13, 14, 15, 16, 17, 18], k ∉ M) : Gs hc h2 := ⟨f 1 (hM 1 (by decide)), f 6 (hM 6 (by decide)), f 7 (hM 7 (by decide)), f 8 (hM 8 (by decide)), f 9 (hM 9 (by decide)), f 10 (hM 10 (by decide)), f 11 (hM 11 (by decide))⟩
theorem ts_up {hc h2 : Hp} {R : Int → Nat → Int} {M : List Nat} (G : GI hc R) (ts : TS hc) (f : Fr M hc h2) (hM : ∀ k ∈ [1, 2, 3, 6, 7, 8, 9, 10, 11, 12, 13, 14, 15, 16, 17, 18], k ∉ M) : TS h2 :=
  TS_gs G (gs_up f hM) ts (fun q hq => f q (hM q (by
    simp only [List.mem_cons, List.not_mem_nil, or_false] at hq ⊢
    omega)))
-- vertex
theorem st_vertex {h hc h' : Hp} {k r : Int} (a : ALL h) (f : Fr [1, 2, 3, 10, 11, 12, 13, 14, 15, 16, 17, 18, 19, 20] h hc) (c : (k = 0 ∧ q_vertex h r hc ∧ h' = hup hc 47 0 r) ∨ (k = 1 ∧ ¬ h 1 6 < 30 ∧ h' = h)) : p_mvertex h' ∧ Same h' [30, 35, 36] (fun b h2 => q_mvertex h' b h2) k r := by
  obtain ⟨⟨R, G, m⟩, a2, a3, a4, a5, a6, a7⟩ := id a
  have g1 := G.1
  have m1 : h 30 1 = h 1 6 := m.1
  rcases c with ⟨rfl, ⟨c1, c2, c3, c4, c5, c6, c7⟩, rfl⟩ | ⟨rfl, c1, rfl⟩
  · have e30 : hup hc 47 0 r 30 = h 30 := by rw [hup_k (by decide), f 30 (by decide)]
    have m1' : hup hc 47 0 r 30 1 = h 1 6 := by rw [e30, m1]
    refine ⟨by unfold p_mvertex; rw [m1']; omega, fun b h2 f2 q => ?_⟩
    unfold q_mvertex at q
    rw [m1'] at q
    rcases q with ⟨q1, q2, q3⟩ | ⟨q1, -⟩
    · have F2 : Fr [30, 35, 36, 47] hc h2 := fun k hk => by
        rw [f2 k (fun z => hk (by simp only [List.mem_cons, List.not_mem_nil, or_false] at z ⊢; omega)), hup_k (fun z => hk (by rw [z]; decide))]
      have Gv := GI_vtx G c1
      have Gc := Gs_GI c3 Gv
      have mh' : MR (hup hc 47 0 r) h R := MR_47 (MR_47 m f (by decide)) (Fr.rf.up (M := [47]) (by decide)) (by decide)
      have mv := MR_vtx G mh' c1
      rw [m1', ← q3] at mv
      have gs2 : Gs (vtxH h) h2 := c3.tr (gs_up F2 (by decide))
      have e16 : h2 1 6 = h 1 6 + 1 := by rw [gs2.1]; unfold vtxH; rw [hup_s]
      have e20 : nc h2 20 = nc h 20 := by rw [nc_cong (h := hc) (F2 20 (by decide)) (F2 1 (by decide))]; exact c6
      refine ⟨?_, fun _ => by rw [q2, c2], ALL_new Gv gs2 (fok_up c4 F2 (by decide)) (ts_up Gc c5 F2 (by decide)) mv (by rw [e20]; exact a4) ?_ ?_ ?_⟩
      · rw [q3, hup_o (fun z => by have := z.2; omega), hup_k (by decide), hup_k (by decide), hup_s]
      · rw [F2 4 (by decide), c7]; exact a5
      · rw [e20, ← a6]
        funext v
        unfold nc
        rw [e16, q3, hup_k (by decide)]
        by_cases z : v = h 1 6
        · rw [z, hup_s, if_neg (show ¬ (0 ≤ h 1 6 ∧ h 1 6 < h 1 6) by omega)]
          split <;> rfl
        · rw [hup_o (fun y => z y.2), hup_k (by decide), hup_k (by decide), hup_k (by decide), f 36 (by decide)]
          by_cases y : 0 ≤ v ∧ v < h 1 6
          · rw [if_pos y, if_pos (by omega)]
          · rw [if_neg y, if_neg (by omega)]
      · rw [F2 4 (by decide), c7, q3, hup_o (fun z => by have := z.2; omega), hup_k (by decide), hup_k (by decide), hup_o (fun z => by have := z.2; omega), e30]
        exact a7
    · omega
  · refine ⟨by unfold p_mvertex; rw [m1]; omega, fun b h2 f2 q => ?_⟩
    unfold q_mvertex at q
    rw [m1] at q
    rcases q with ⟨q1, -⟩ | ⟨-, q2⟩
    · exact absurd q1 c1
    · refine ⟨by rw [q2, hup_s], fun z => by omega, ALL_look a ?_ (Keep.code q2)⟩
      rw [q2]
      exact Fr.rf.up (by decide)
theorem nc_zero {h : Hp} {k : Nat} (hz : ∀ v, 0 ≤ v → v < 30 → h k v = 0) (h30 : h 1 6 ≤ 30) : nc h k = fun _ => 0 := by
  funext v
  unfold nc
  by_cases w : 0 ≤ v ∧ v < h 1 6
  · rw [if_pos w]
    exact hz v w.1 (by omega)
  · rw [if_neg w]
-- edge
theorem st_edge {h hc h' : Hp} {a b ba bb k r : Int} (A : ALL h) (f : Fr [1, 2, 3, 4, 6, 7, 8, 9, 10, 11, 12, 13, 14, 15, 16, 17, 18, 19, 20] h hc) (c : (k = 0 ∧ q_edge a b ba bb h r hc ∧ h' = hup hc 47 0 r) ∨ ((k = 1 ∨ k = 2 ∨ k = 3) ∧ EC h a b ba bb k ∧ h' = h)) : p_medge a b ba bb h' ∧ Same h' [30, 31, 32, 33, 34, 35, 36] (fun x h2 => q_medge a b ba bb h' x h2) k r := by
  obtain ⟨⟨R, G, m⟩, a2, a3, a4, a5, a6, a7⟩ := id A
  rcases c with ⟨rfl, ⟨c1, c2, c3, c4, c5, c6, c7⟩, rfl⟩ | ⟨hk, c1, rfl⟩
  · have mh' : MR (hup hc 47 0 r) h R := MR_47 (MR_47 m f (by decide)) (Fr.rf.up (M := [47]) (by decide)) (by decide)
    refine ⟨⟨h, R, G, mh'⟩, fun x h2 f2 q => ?_⟩
    obtain ⟨c, e1, e2, e3, e4⟩ := q h R G mh'
    have ez : c = 0 := EC_fun e1 c1
    subst ez
    obtain ⟨d1, d2, d3, d4⟩ := e4 rfl
    obtain ⟨p1, p2, ao⟩ := addOk_ex G c1
    have F2 : Fr [30, 31, 32, 33, 34, 35, 36, 47] hc h2 := fun k hk => by
      rw [f2 k (fun z => hk (by simp only [List.mem_cons, List.not_mem_nil, or_false] at z ⊢; omega)), hup_k (fun z => hk (by rw [z]; decide))]
    have Ga := GI_add ao
    have Gc := Gs_GI c3 Ga
    have gs2 : Gs (addH h a b ba bb) h2 := c3.tr (gs_up F2 (by decide))
    have h30 : h2 1 6 ≤ 30 := by rw [gs2.1]; exact Ga.1.2
    have n20 : nc h2 20 = fun _ => 0 := by
      rw [nc_cong (h := hc) (F2 20 (by decide)) (F2 1 (by decide))]
      exact funext c6
    have n36 : nc h2 36 = fun _ => 0 := nc_zero d2 h30
    have k48 : h2 4 8 = 0 := by rw [F2 4 (by decide)]; exact c7
    refine ⟨e2, fun _ => by rw [d1, c2], ALL_new Ga gs2 (fok_up c4 F2 (by decide)) (ts_up Gc c5 F2 (by decide)) (d4 p1 p2 ao) (by rw [n20]; exact CR_0) (by rw [k48]; omega) (by rw [n20, n36]) (by rw [d3, k48])⟩
  · refine ⟨⟨h', R, G, m⟩, fun x h2 f2 q => ?_⟩
    obtain ⟨c, e1, e2, e3, e4⟩ := q h' R G m
    have ez : c = k := EC_fun e1 c1
    subst ez
    have nz : c ≠ 0 := by omega
    have e3 := e3 nz
    refine ⟨e2, fun z => absurd z nz, ALL_look A ?_ (Keep.code e3)⟩
    rw [e3]
    exact Fr.rf.up (by decide)
-- remove
theorem st_remove {h hc h' : Hp} {e k r : Int} (A : ALL h) (f : Fr [1, 2, 3, 4, 7, 8, 9, 10, 11, 12, 13, 14, 15, 16, 17, 18, 19, 20] h hc) (c : (k = 0 ∧ q_remove e h r hc ∧ h' = hup hc 47 0 r) ∨ (k = 1 ∧ ¬ eOK h e ∧ h' = h)) : p_mremove e h' ∧ Same h' [30, 33, 34, 35, 36] (fun x h2 => q_mremove e h' x h2) k r := by
  obtain ⟨⟨R, G, m⟩, a2, a3, a4, a5, a6, a7⟩ := id A
  rcases c with ⟨rfl, ⟨c1, c2, c3, c4, c5, c6, c7⟩, rfl⟩ | ⟨rfl, c1, rfl⟩
  · have mh' : MR (hup hc 47 0 r) h R := MR_47 (MR_47 m f (by decide)) (Fr.rf.up (M := [47]) (by decide)) (by decide)
    refine ⟨⟨h, R, G, mh'⟩, fun x h2 f2 q => ?_⟩
    rcases q h R G mh' with ⟨-, e2, d1, d2, d3, d4⟩ | ⟨q1, -⟩
    · obtain ⟨p1, p2, ao⟩ := dropOk_ex G c1
      have F2 : Fr [30, 33, 34, 35, 36, 47] hc h2 := fun k hk => by
        rw [f2 k (fun z => hk (by simp only [List.mem_cons, List.not_mem_nil, or_false] at z ⊢; omega)), hup_k (fun z => hk (by rw [z]; decide))]
      have Ga := GI_drop ao
      have Gc := Gs_GI c3 Ga
      have gs2 : Gs (dropH h e) h2 := c3.tr (gs_up F2 (by decide))
      have h30 : h2 1 6 ≤ 30 := by rw [gs2.1]; exact Ga.1.2
      have n20 : nc h2 20 = fun _ => 0 := by
        rw [nc_cong (h := hc) (F2 20 (by decide)) (F2 1 (by decide))]
        exact funext c6
      have n36 : nc h2 36 = fun _ => 0 := nc_zero d2 h30
      have k48 : h2 4 8 = 0 := by rw [F2 4 (by decide)]; exact c7
      exact ⟨e2, fun _ => by rw [d1, c2], ALL_new Ga gs2 (fok_up c4 F2 (by decide)) (ts_up Gc c5 F2 (by decide)) (d4 p1 p2 ao) (by rw [n20]; exact CR_0) (by rw [k48]; omega) (by rw [n20, n36]) (by rw [d3, k48])⟩
    · exact absurd c1 q1
  · refine ⟨⟨h', R, G, m⟩, fun x h2 f2 q => ?_⟩
    rcases q h' R G m with ⟨q1, -⟩ | ⟨-, q2⟩
    · exact absurd q1 c1
    · refine ⟨by rw [q2, hup_s], fun z => by omega, ALL_look A ?_ (Keep.code q2)⟩
      rw [q2]
      exact Fr.rf.up (by decide)
-- clear
theorem st_clear {h hc : Hp} (f : Fr [1, 2, 3, 4, 12, 13, 14, 15, 16, 17, 18, 19, 20] h hc) (c : q_clear hc) : ∀ h2, Fr [30, 36] hc h2 → q_mclear hc h2 → ALL h2 := by
  obtain ⟨c1, c2, c3, c4, c5, c6⟩ := c
  intro h2 f2 q
  obtain ⟨q0, q1, q2, q3, q10⟩ := q
  have k1 : h2 1 = hc 1 := f2 1 (by decide)
  have G := GI_0 (h := hc) c1 c2 c3
  have e16 : h2 1 6 = 0 := by rw [k1]; exact c1
  have nz : ∀ k, nc h2 k = fun _ => 0 := fun k => by
    funext v
    unfold nc
    rw [e16, if_neg (by omega)]
  have k48 : h2 4 8 = 0 := by rw [f2 4 (by decide)]; exact c6
  refine ALL_new G (gs_up f2 (by decide)) (fok_up c4 f2 (by decide)) (ts_up G c5 f2 (by decide)) ⟨by rw [q1, c1], by rw [q2, c2], by rw [q3, c3], fun e h1 h2 => by omega, fun v h1 h2 => by omega⟩ (by rw [nz]; exact CR_0) (by rw [k48]; omega) (by rw [nz, nz]) (by rw [q10, k48])
theorem ord_gs {h h' : Hp} (g : Gs h h') {c : Int → Int} {x : Int} (a : ColA h c x) : ColA h' c x := by
  obtain ⟨L, a1, a2, a3⟩ := a
  refine ⟨L, Ord_gs g a1, by rw [g.1]; exact a2, ?_⟩
  have key : ∀ (i : Nat) {c c' : Int → Int} {x x' : Int}, BBs h L i c x c' x' → BBs h' L i c x c' x' := by
    intro i
    induction i with
    | zero => intro c c' x x' z; exact z
    | succ i ih =>
      intro c c' x x' z
      obtain ⟨v, c1, x1, z1, z2, z3⟩ := z
      exact ⟨v, c1, x1, z1, (BB_gs g).mpr z2, ih z3⟩
  exact key _ a3
-- colour
theorem st_colour {h hc h' : Hp} {k r : Int} (A : ALL h) (f : Fr [4, 20, 21, 22, 23, 24, 25] h hc) (c : (k = 0 ∧ q_colour h r hc ∧ h' = hup hc 47 0 r) ∨ (k = 1 ∧ gnF h ≠ 0 ∧ h' = h)) : p_mcolour h' ∧ Same h' [30, 36, 37, 38, 39, 40, 41, 42, 43] (fun x h2 => q_mcolour h' x h2) k r := by
  obtain ⟨⟨R, G, m⟩, a2, a3, a4, a5, a6, a7⟩ := id A
  have F' : Fr [4, 20, 21, 22, 23, 24, 25, 47] h h' := by
    rcases c with ⟨-, -, rfl⟩ | ⟨-, -, rfl⟩
    · exact (f.mon (by decide)).up (by decide)
    · exact Fr.rf
  have gs : Gs h h' := Gs.of F' (by decide)
  have eg : gnF h' = gnF h := TF_gs G gs
  have S' : Sy h' := Sy_keep A.1 F' (by decide) (Keep.fr F' (by decide))
  have G' := Gs_GI gs G
  refine ⟨⟨S', fun z => EU_of G' z⟩, fun x h2 f2 q => ?_⟩
  obtain ⟨q0, q⟩ := q
  rw [eg] at q
  have F2 : Fr [4, 20, 21, 22, 23, 24, 25, 30, 36, 37, 38, 39, 40, 41, 42, 43, 47] h h2 := (F'.mon (by decide)).trans f2 (by decide)
  have gs2 : Gs h h2 := Gs.of F2 (by decide)
  have fok2 : FOK h2 h2 := fok_up a2 F2 (by decide)
  have ts2 : TS h2 := ts_up G a3 F2 (by decide)
  have kc : ∀ j, j ≠ 0 → j ≠ 10 → j ≠ 12 → j ≠ 16 → j ≠ 20 → h2 30 j = h 30 j := fun j x1 x2 x3 x4 x5 => by rw [q0 j x1 x2 x3 x4 x5, F' 30 (by decide)]
  have m2 : MR h2 h R := MR_cong m (kc 1 (by decide) (by decide) (by decide) (by decide) (by decide)) (kc 2 (by decide) (by decide) (by decide) (by decide) (by decide)) (kc 3 (by decide) (by decide) (by decide) (by decide) (by decide)) (F2 31 (by decide)) (F2 32 (by decide)) (F2 33 (by decide)) (F2 34 (by decide)) (F2 35 (by decide)) rfl rfl rfl rfl
  have n20 : nc h2 20 = nc h' 20 := nc_cong (f2 20 (by decide)) (f2 1 (by decide))
  rcases c with ⟨rfl, ⟨c1, c2, c3, c4, c5⟩, rfl⟩ | ⟨rfl, c1, rfl⟩
  · rcases q with ⟨q1, -⟩ | ⟨-, q1, q2, q3⟩
    · exact absurd c1 q1
    · have e20 : nc (hup hc 47 0 r) 20 = nc hc 20 := nc_cong (by rw [hup_k (by decide)]) (by rw [hup_k (by decide)])
      have k48 : h2 4 8 = hc 4 8 := by rw [f2 4 (by decide), hup_k (by decide)]
      obtain ⟨u1, u2⟩ := ColA_uniq q2 (ord_gs gs c2)
      refine ⟨q1, fun _ => by rw [q3, c3, u1], ALL_new G gs2 fok2 ts2 m2 (by rw [n20, e20]; exact c4) (by rw [k48]; exact c5) (by rw [n20, e20, u1]) (by rw [u2, k48])⟩
  · rcases q with ⟨-, q1, q2, q3⟩ | ⟨q1, -⟩
    · exact ⟨q1, fun z => by omega, ALL_new G gs2 fok2 ts2 m2 (by rw [n20]; exact a4) (by rw [f2 4 (by decide)]; exact a5) (by rw [n20, q2]; exact a6) (by rw [q3, f2 4 (by decide)]; exact a7)⟩
    · exact absurd q1 c1
-- exchange
theorem st_exch {h hc h' : Hp} {v y k r : Int} (A : ALL h) (f : Fr [4, 20, 24, 25] h hc) (c : (k = 0 ∧ q_exch v y h r hc ∧ h' = hup hc 47 0 r) ∨ (k = 1 ∧ ¬ vOK h v ∧ h' = h) ∨ (k = 2 ∧ vOK h v ∧ ¬ XC h (nc h 20) v y ∧ h' = h)) : p_mexch v y h' ∧ Same h' [30, 36, 40, 42, 43] (fun x h2 => q_mexch v y h' x h2) k r := by
  obtain ⟨⟨R, G, m⟩, a2, a3, a4, a5, a6, a7⟩ := id A
  have F' : Fr [4, 20, 24, 25, 47] h h' := by
    rcases c with ⟨-, -, rfl⟩ | ⟨-, -, rfl⟩ | ⟨-, -, -, rfl⟩
    · exact (f.mon (by decide)).up (by decide)
    · exact Fr.rf
    · exact Fr.rf
  have gs : Gs h h' := Gs.of F' (by decide)
  have S' : Sy h' := Sy_keep A.1 F' (by decide) (Keep.fr F' (by decide))
  have e36 : nc h' 36 = nc h 20 := by rw [nc_cong (h := h) (F' 36 (by decide)) (F' 1 (by decide))]; exact a6
  have m1 : h 30 1 = h 1 6 := m.1
  have iv : isV h' v ↔ vOK h v := by unfold isV vOK; rw [F' 30 (by decide), m1]
  refine ⟨⟨S', by rw [e36]; exact a4⟩, fun x h2 f2 q => ?_⟩
  obtain ⟨q0, q⟩ := q
  rw [e36, iv, CH_gs gs] at q
  have xcg : XC h' (nc h 20) v y ↔ XC h (nc h 20) v y := Iff.rfl
  have F2 : Fr [4, 20, 24, 25, 30, 36, 40, 42, 43, 47] h h2 := (F'.mon (by decide)).trans f2 (by decide)
  have gs2 : Gs h h2 := Gs.of F2 (by decide)
  have fok2 : FOK h2 h2 := fok_up a2 F2 (by decide)
  have ts2 : TS h2 := ts_up G a3 F2 (by decide)
  have kc : ∀ j, j ≠ 0 → j ≠ 20 → h2 30 j = h 30 j := fun j x1 x2 => by rw [q0 j x1 x2, F' 30 (by decide)]
  have m2 : MR h2 h R := MR_cong m (kc 1 (by decide) (by decide)) (kc 2 (by decide) (by decide)) (kc 3 (by decide) (by decide)) (F2 31 (by decide)) (F2 32 (by decide)) (F2 33 (by decide)) (F2 34 (by decide)) (F2 35 (by decide)) rfl rfl rfl rfl
  have n20 : nc h2 20 = nc h' 20 := nc_cong (f2 20 (by decide)) (f2 1 (by decide))
  have e10 : h2 30 10 = h 4 8 := by rw [kc 10 (by decide) (by decide)]; exact a7
  rcases c with ⟨rfl, ⟨c1, c2, c3, c4, c5⟩, rfl⟩ | ⟨rfl, c1, rfl⟩ | ⟨rfl, c1, c2, rfl⟩
  · rcases q with ⟨q1, -⟩ | ⟨-, q1, -⟩ | ⟨-, -, q2, q3, q4⟩
    · exact absurd c1 q1
    · exact absurd c2 q1
    · have e20 : nc (hup hc 47 0 r) 20 = nc hc 20 := nc_cong (by rw [hup_k (by decide)]) (by rw [hup_k (by decide)])
      have k48 : h2 4 8 = h 4 8 := by rw [f2 4 (by decide), hup_k (by decide)]; exact c5
      have cr : CR (nc hc 20) := by
        rw [c4]
        intro u
        rcases Sw_at (u := u) (CH_ok G (c := nc h 20) (y := y) c1).2 with ⟨-, e⟩ | ⟨-, ⟨-, e⟩ | ⟨-, e⟩⟩
        · rw [e]; exact a4 u
        · rw [e]; have := c2.2; omega
        · rw [e]; exact a4 v
      exact ⟨q2, fun _ => by rw [q3, c3], ALL_new G gs2 fok2 ts2 m2 (by rw [n20, e20]; exact cr) (by rw [k48]; exact a5) (by rw [n20, e20, q4, c4]) (by rw [e10, k48])⟩
  · rcases q with ⟨-, q1, q2⟩ | ⟨q1, -⟩ | ⟨q1, -⟩
    · exact ⟨q1, fun z => by omega, ALL_new G gs2 fok2 ts2 m2 (by rw [n20]; exact a4) (by rw [f2 4 (by decide)]; exact a5) (by rw [n20, q2]) (by rw [e10, f2 4 (by decide)])⟩
    · exact absurd q1 c1
    · exact absurd q1 c1
  · rcases q with ⟨q1, -⟩ | ⟨-, -, q1, q2⟩ | ⟨-, q1, -⟩
    · exact absurd c1 q1
    · exact ⟨q1, fun z => by omega, ALL_new G gs2 fok2 ts2 m2 (by rw [n20]; exact a4) (by rw [f2 4 (by decide)]; exact a5) (by rw [n20, q2]) (by rw [e10, f2 4 (by decide)])⟩
    · exact absurd q1 c2
-- the start: all cells nothing
theorem ALL_0 : ALL (fun _ _ => 0) := by
  have G : GI (fun _ _ => 0) (fun _ _ => 0) := GI_0 rfl rfl rfl
  have nz : ∀ k, nc (fun _ _ => 0) k = fun _ => 0 := fun k => by
    funext v
    show (if 0 ≤ v ∧ v < (0 : Int) then (0 : Int) else 0) = 0
    split <;> rfl
  have e37 : tr (fun _ _ => 0) 3 7 = 0 := by
    show survL 0 (g0 (fun _ _ => 0)) 3 7 = 0
    show g0 (fun _ _ => 0) 3 7 = 0
    exact g0_37
  refine ⟨⟨_, G, rfl, rfl, rfl, fun e h1 h2 => ?_, fun v h1 h2 => ?_⟩, ⟨?_, fun t ht => ?_⟩, ⟨e37.symm, fun v hv => ?_⟩, by rw [nz]; exact CR_0, ⟨Int.le_refl 0, by decide⟩, by rw [nz, nz], rfl⟩
  · have h2 : e < 0 := h2
    omega
  · have h2 : v < 0 := h2
    omega
  · rfl
  · have := ht.1
    have h0 := this.1
    have h1 : t < 2 * 0 := this.2.1
    omega
  · have h0 := hv.1
    have h1 : v < 0 := hv.2
    omega

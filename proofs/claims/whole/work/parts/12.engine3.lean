/-! the engine's rows: fields, arrays, returns -/
def Xl (X : CxT) : Launch := X.2.1
def XM (X : CxT) : List Nat := match X with | (_, _, _, _, _, _, _, _, _, _, _, _, _, _, _, _, _, M, _, _, _, _) => M
def Xh (X : CxT) : Hp := match X with | (_, _, _, _, _, _, _, _, _, _, _, _, _, _, _, _, h0, _, _, _, _, _) => h0
def XP (X : CxT) : Int → Hp → Prop := match X with | (_, _, _, _, _, _, _, _, _, _, _, _, _, _, _, _, _, _, post, _, _, _) => post
def XX (X : CxT) : String → Prop := match X with | (_, _, _, _, _, _, _, _, _, _, _, _, _, _, _, _, _, _, _, px, _, _) => px
def Xc (X : CxT) : Nat := match X with | (_, _, _, _, _, _, _, _, _, _, _, _, _, _, _, _, _, _, _, _, mc, _) => mc
def Xr (X : CxT) : Option FieldType := match X with | (_, _, _, _, _, _, _, _, _, _, _, _, _, _, _, _, _, _, _, _, _, ret) => ret
theorem eC_o {cI cZ cJ : ClassId} {ad : Nat → Nat} {h : Hp} {k ci : Nat} {fs : List (Option Nat)} : eC cI cZ cJ ad h k (.inr (ci, fs)) = .inr (ci, fC ad (h k) 0 fs) := rfl
theorem eC_i {cI cZ cJ : ClassId} {ad : Nat → Nat} {h : Hp} {k n : Nat} : eC cI cZ cJ ad h k (.inl (0, n)) = .inl (cI, n, .inl (fun j => i32 (h k j))) := rfl
theorem eC_z {cI cZ cJ : ClassId} {ad : Nat → Nat} {h : Hp} {k n : Nat} : eC cI cZ cJ ad h k (.inl (1, n)) = .inl (cZ, n, .inl (fun j => i32 (h k j))) := rfl
theorem upd_hup {h : Hp} {k : Nat} {i x : Int} (h0 : 0 ≤ i) : upd (fun j : Nat => i32 (h k (j : Int))) i.toNat (i32 x) = fun j : Nat => i32 (hup h k i x k (j : Int)) := by
  funext j
  unfold upd hup
  by_cases q : j = i.toNat
  · rw [if_pos q, if_pos ⟨rfl, by omega⟩]
  · rw [if_neg q, if_neg (fun z => q (by omega))]
theorem set_hup {ad : Nat → Nat} {h : Hp} {r i : Nat} {x : Int} {fs : List (Option Nat)} (hf : fs[i]? = some none) : (fC ad (h r) 0 fs).set i (.int (i32 x)) = fC ad (hup h r i x r) 0 fs := by
  apply List.ext_getElem?
  intro j
  by_cases q : i = j
  · subst q
    rw [List.getElem?_set_self (by rw [fC_len]; exact (List.getElem?_eq_some_iff.mp hf).1), fC_at, hf]
    simp only [Option.map_some, Nat.zero_add, hup_s]
  · rw [List.getElem?_set_ne q, fC_at, fC_at]
    cases hj : fs[j]? with
    | none => rfl
    | some o =>
      cases o with
      | none =>
        simp only [Option.map_some, Nat.zero_add]
        rw [hup_o (fun z => q (by have := z.2; omega))]
      | some w => rfl
section EngineRows3
variable {X : CxT} {cc : ByteArray} {own : String} {f n nL pc k : Nat} {L : List (Nat × Vv)} {st : List Vv} {h : Hp}
theorem r_getR {r q i idx ci N : Nat} {fs : List (Option Nat)} {Cn : String} {T : u_T} (C : CX X cc own f n nL) (d : decode cc pc = .ok (.getfield idx, 3)) (hy : lay[r]? = some (.inr (ci, fs))) (hc : vwCl[ci]? = some (Cn, T, N)) (hi : i < N) (hf : fs[i]? = some (some q)) (hin : ∀ w ∈ u_ws Cn T N, w ∈ wsL_law) (hl : Cond.fieldLink own idx (T i).1 (T i).2.1 (T i).2.2.1 ∈ wsL_law)
    (kk : Wh X (pc + 3) L (vr q :: st) h k) : Wh X pc L (vr r :: st) h k := by
  obtain ⟨p, l, e, R, s, m, args, below, meth, c, D, ad, cI, cZ, cJ, A, h0, M, post, px, mc, ret⟩ := X
  intro H locs ls a1 a2 a3 a4 a5 a6 a7 a8
  obtain ⟨hx, hb, hown, hts, hK, -⟩ := C
  have he := wC_at (cI := cI) (cZ := cZ) (cJ := cJ) (ad := ad) (h := h) hy
  rw [eC_o] at he
  exact va_get hx hb hts hin hown hK a1 r he hc i hi (hts _ hl) (fun _ z => z) (v := .ref (ad q)) (by rw [fC_at, hf]; rfl) d (kk H locs ls a1 a2 a3 a4 a5 a6 (okS1 trivial (okT a7)) a8)
theorem r_getI {r i idx ci N : Nat} {fs : List (Option Nat)} {Cn : String} {T : u_T} (C : CX X cc own f n nL) (d : decode cc pc = .ok (.getfield idx, 3)) (hy : lay[r]? = some (.inr (ci, fs))) (hc : vwCl[ci]? = some (Cn, T, N)) (hi : i < N) (hf : fs[i]? = some none) (hin : ∀ w ∈ u_ws Cn T N, w ∈ wsL_law) (hl : Cond.fieldLink own idx (T i).1 (T i).2.1 (T i).2.2.1 ∈ wsL_law)
    (kk : Wh X (pc + 3) L (vi (h r i) :: st) h k) : Wh X pc L (vr r :: st) h k := by
  obtain ⟨p, l, e, R, s, m, args, below, meth, c, D, ad, cI, cZ, cJ, A, h0, M, post, px, mc, ret⟩ := X
  intro H locs ls a1 a2 a3 a4 a5 a6 a7 a8
  obtain ⟨hx, hb, hown, hts, hK, -⟩ := C
  have he := wC_at (cI := cI) (cZ := cZ) (cJ := cJ) (ad := ad) (h := h) hy
  rw [eC_o] at he
  exact va_get hx hb hts hin hown hK a1 r he hc i hi (hts _ hl) (fun _ z => z) (v := .int (i32 (h r i))) (by rw [fC_at, hf]; simp) d (kk H locs ls a1 a2 a3 a4 a5 a6 (okS1 (v := vi (h r i)) (a4 r i) (okT a7)) a8)
theorem r_putI {r i idx ci N : Nat} {x : Int} {fs : List (Option Nat)} {Cn : String} {T : u_T} {ty0 : Nat → FieldType} {M : List Nat} (C : CX X cc own f n nL) (d : decode cc pc = .ok (.putfield idx, 3)) (hy : lay[r]? = some (.inr (ci, fs))) (hc : vwCl[ci]? = some (Cn, T, N)) (hi : i < N) (hf : fs[i]? = some none) (hin : ∀ w ∈ u_ws Cn T N, w ∈ wsL_law) (hl : Cond.fieldLink own idx (T i).1 (T i).2.1 (T i).2.2.1 ∈ wsL_law)
    (hty : ∀ k, k < N → parseFieldDescriptor (T k).2.2.1 = some (ty0 k)) (hnm : ∀ a, a < N → ∀ b, b < N → a ≠ b → (T a).2.1 ≠ (T b).2.1) (hfin : (T i).2.2.2 = false) (hint : parseFieldDescriptor (T i).2.2.1 = some .int) (hM : XM X = M) (hr : r ∈ M)
    (kk : Wh X (pc + 3) L st (hup h r i x) k) : Wh X pc L (vi x :: vr r :: st) h k := by
  obtain ⟨p, l, e, R, s, m, args, below, meth, c, D, ad, cI, cZ, cJ, A, h0, M, post, px, mc, ret⟩ := X
  intro H locs ls a1 a2 a3 a4 a5 a6 a7 a8
  obtain ⟨hx, hb, hown, hts, hK, -⟩ := C
  cases hM
  have he := wC_at (cI := cI) (cZ := cZ) (cJ := cJ) (ad := ad) (h := h) hy
  rw [eC_o] at he
  have e1 : (wC cI cZ cJ ad h).set r (ad r, .inr (ci, (fC ad (h r) 0 fs).set i (.int (i32 x)))) = wC cI cZ cJ ad (hup h r i x) :=
    wC_set hy (fun a ha => hup_k ha) (by rw [eC_o, set_hup hf])
  refine va_put hx hb hts hin ty0 hty hnm hown hK a1 a2 a3 r he hc i hi (hts _ hl) (fun _ z => z) hfin (ty := .int) (v := .int (i32 x)) hint rfl rfl (by rw [fC_len]; exact (List.getElem?_eq_some_iff.mp hf).1) d (fun H1 locs1 b1 b2 b3 => ?_)
  rw [e1] at b1 b2
  exact kk H1 locs1 ls b1 b2 b3 (a4.up (okH a7)) (a5.up hr) a6 (okT (okT a7)) a8
theorem r_iaload {r N : Nat} {i : Int} (C : CX X cc own f n nL) (d : decode cc pc = .ok (.iaload, 1)) (hy : lay[r]? = some (.inl (0, N))) (o : 0 ≤ i ∧ i < N) (kk : Wh X (pc + 1) L (vi (h r i) :: st) h k) : Wh X pc L (vi i :: vr r :: st) h k := by
  obtain ⟨p, l, e, R, s, m, args, below, meth, c, D, ad, cI, cZ, cJ, A, h0, M, post, px, mc, ret⟩ := X
  intro H locs ls a1 a2 a3 a4 a5 a6 a7 a8
  obtain ⟨hx, hb, hown, hts, hK, -⟩ := C
  have hi : InR i := okH a7
  have he := wC_at (cI := cI) (cZ := cZ) (cJ := cJ) (ad := ad) (h := h) hy
  rw [eC_i] at he
  refine va_iald hx hb hK a1 r 0 he rfl (i := i32 i) (i32_in hi o.1 o.2) d ?_
  have e1 : ((i32 i).toNatClampNeg : Int) = i := by rw [i32_clamp hi]; omega
  rw [e1]
  exact kk H locs ls a1 a2 a3 a4 a5 a6 (okS1 (v := vi (h r i)) (a4 r i) (okT (okT a7))) a8
theorem r_baload {r N : Nat} {i : Int} (C : CX X cc own f n nL) (d : decode cc pc = .ok (.baload, 1)) (hy : lay[r]? = some (.inl (1, N))) (o : 0 ≤ i ∧ i < N) (kk : Wh X (pc + 1) L (vi (h r i) :: st) h k) : Wh X pc L (vi i :: vr r :: st) h k := by
  obtain ⟨p, l, e, R, s, m, args, below, meth, c, D, ad, cI, cZ, cJ, A, h0, M, post, px, mc, ret⟩ := X
  intro H locs ls a1 a2 a3 a4 a5 a6 a7 a8
  obtain ⟨hx, hb, hown, hts, hK, -⟩ := C
  have hi : InR i := okH a7
  have he := wC_at (cI := cI) (cZ := cZ) (cJ := cJ) (ad := ad) (h := h) hy
  rw [eC_z] at he
  refine va_zald hx hb hK a1 r 1 he rfl (i := i32 i) (i32_in hi o.1 o.2) d ?_
  have e1 : ((i32 i).toNatClampNeg : Int) = i := by rw [i32_clamp hi]; omega
  rw [e1]
  exact kk H locs ls a1 a2 a3 a4 a5 a6 (okS1 (v := vi (h r i)) (a4 r i) (okT (okT a7))) a8
theorem r_iastore {r N : Nat} {i x : Int} {M : List Nat} (C : CX X cc own f n nL) (d : decode cc pc = .ok (.iastore, 1)) (hy : lay[r]? = some (.inl (0, N))) (hM : XM X = M) (hr : r ∈ M) (o : 0 ≤ i ∧ i < N) (kk : Wh X (pc + 1) L st (hup h r i x) k) : Wh X pc L (vi x :: vi i :: vr r :: st) h k := by
  obtain ⟨p, l, e, R, s, m, args, below, meth, c, D, ad, cI, cZ, cJ, A, h0, M, post, px, mc, ret⟩ := X
  intro H locs ls a1 a2 a3 a4 a5 a6 a7 a8
  obtain ⟨hx, hb, hown, hts, hK, -⟩ := C
  cases hM
  have hi : InR i := okH (okT a7)
  have he := wC_at (cI := cI) (cZ := cZ) (cJ := cJ) (ad := ad) (h := h) hy
  rw [eC_i] at he
  have e1 : (wC cI cZ cJ ad h).set r (ad r, .inl (cI, N, .inl (upd (fun j => i32 (h r j)) (i32 i).toNatClampNeg (i32 x)))) = wC cI cZ cJ ad (hup h r i x) :=
    wC_set hy (fun a ha => hup_k ha) (by rw [eC_i, i32_clamp hi, upd_hup o.1])
  refine va_iast hx hb hK a1 a2 a3 r 0 he rfl (i := i32 i) (x := i32 x) (i32_in hi o.1 o.2) d (fun H1 locs1 b1 b2 b3 => ?_)
  rw [e1] at b1 b2
  exact kk H1 locs1 ls b1 b2 b3 (a4.up (okH a7)) (a5.up hr) a6 (okT (okT (okT a7))) a8
theorem r_bastore {r N : Nat} {i x : Int} {M : List Nat} (C : CX X cc own f n nL) (d : decode cc pc = .ok (.bastore, 1)) (hy : lay[r]? = some (.inl (1, N))) (hM : XM X = M) (hr : r ∈ M) (o : 0 ≤ i ∧ i < N) (o1 : x = 0 ∨ x = 1) (kk : Wh X (pc + 1) L st (hup h r i x) k) : Wh X pc L (vi x :: vi i :: vr r :: st) h k := by
  obtain ⟨p, l, e, R, s, m, args, below, meth, c, D, ad, cI, cZ, cJ, A, h0, M, post, px, mc, ret⟩ := X
  intro H locs ls a1 a2 a3 a4 a5 a6 a7 a8
  obtain ⟨hx, hb, hown, hts, hK, -⟩ := C
  cases hM
  have hi : InR i := okH (okT a7)
  have he := wC_at (cI := cI) (cZ := cZ) (cJ := cJ) (ad := ad) (h := h) hy
  rw [eC_z] at he
  have ex : vp_nar .boolean (i32 x) = i32 x := by rcases o1 with rfl | rfl <;> rfl
  have e1 : (wC cI cZ cJ ad h).set r (ad r, .inl (cZ, N, .inl (upd (fun j => i32 (h r j)) (i32 i).toNatClampNeg (vp_nar .boolean (i32 x))))) = wC cI cZ cJ ad (hup h r i x) :=
    wC_set hy (fun a ha => hup_k ha) (by rw [eC_z, i32_clamp hi, ex, upd_hup o.1])
  refine va_zast hx hb hK a1 a2 a3 r 1 he rfl (i := i32 i) (x := i32 x) (i32_in hi o.1 o.2) d (fun H1 locs1 b1 b2 b3 => ?_)
  rw [e1] at b1 b2
  exact kk H1 locs1 ls b1 b2 b3 (a4.up (okH a7)) (a5.up hr) a6 (okT (okT (okT a7))) a8
theorem r_ireturn {x : Int} (C : CX X cc own f n nL) (d : decode cc pc = .ok (.ireturn, 1)) (hret : Xr X = some .int) (hk : k ≤ Xc X) (o : XP X x h) : Wh X pc L [vi x] h k := by
  obtain ⟨p, l, e, R, s, m, args, below, meth, c, D, ad, cI, cZ, cJ, A, h0, M, post, px, mc, ret⟩ := X
  intro H locs ls a1 a2 a3 a4 a5 a6 a7 a8
  obtain ⟨hx, hb, hown, hts, hK, hlocks, hr, -⟩ := C
  cases hret
  have hk : k ≤ mc := hk
  refine W.widen (k := mc) (n := 6 * mc) hk (by omega) (vx_ret ?_)
  exact W.iret (v := i32 x) hx hb hr (fun t ht hW => ⟨⟨i32 x, (x, h), rfl, ⟨rfl, okH a7, a5, a4, o⟩, by show va_P _ _ _ _; rw [ht]; exact a1, va_K.moved hW.alike hK, a2⟩, a3.F ht⟩) a3.2.2 d hlocks
theorem r_zreturn {x : Int} (C : CX X cc own f n nL) (d : decode cc pc = .ok (.ireturn, 1)) (hret : Xr X = some .boolean) (hk : k ≤ Xc X) (o1 : x = 0 ∨ x = 1) (o : XP X x h) : Wh X pc L [vi x] h k := by
  obtain ⟨p, l, e, R, s, m, args, below, meth, c, D, ad, cI, cZ, cJ, A, h0, M, post, px, mc, ret⟩ := X
  intro H locs ls a1 a2 a3 a4 a5 a6 a7 a8
  obtain ⟨hx, hb, hown, hts, hK, hlocks, hr, -⟩ := C
  cases hret
  have hk : k ≤ mc := hk
  refine W.widen (k := mc) (n := 6 * mc) hk (by omega) (vx_ret ?_)
  exact W.zret (v := i32 x) hx hb hr (by rcases o1 with rfl | rfl <;> rfl) (fun t ht hW => ⟨⟨i32 x, (x, h), rfl, ⟨rfl, okH a7, a5, a4, o⟩, by show va_P _ _ _ _; rw [ht]; exact a1, va_K.moved hW.alike hK, a2⟩, a3.F ht⟩) a3.2.2 d hlocks
theorem r_return (C : CX X cc own f n nL) (d : decode cc pc = .ok (.return_, 1)) (hret : Xr X = none) (hk : k ≤ Xc X) (o : XP X 0 h) : Wh X pc L [] h k := by
  obtain ⟨p, l, e, R, s, m, args, below, meth, c, D, ad, cI, cZ, cJ, A, h0, M, post, px, mc, ret⟩ := X
  intro H locs ls a1 a2 a3 a4 a5 a6 a7 a8
  obtain ⟨hx, hb, hown, hts, hK, hlocks, hr, -⟩ := C
  cases hret
  have hk : k ≤ mc := hk
  refine W.widen (k := mc) (n := 6 * mc) hk (by omega) (vx_ret ?_)
  exact W.vret hx hb hr (fun t ht hW => ⟨⟨h, rfl, ⟨a5, a4, o⟩, by show va_P _ _ _ _; rw [ht]; exact a1, va_K.moved hW.alike hK, a2⟩, a3.F ht⟩) a3.2.2 d hlocks
end EngineRows3

/-! the law's body: its cases, its loop -/
def L0 (i : Int) : List (Nat × Vv) := [(4, vi i), (3, vr 47), (2, vr 30), (1, vr 0), (0, vr 48)]
theorem Wg_drop {X : GxT} {pc k : Nat} {L L' : List (Nat × Vv)} {st : List Vv} {h : Hp} (hs : ∀ q ∈ L', q ∈ L) (kk : Wg X pc L' st h k) : Wg X pc L st h k := by
  obtain ⟨p, l, e, R, s, m, args, below, meth, c, D, ad, cI, cZ, cJ, A, Q, sb⟩ := X
  intro H locs ls a1 a2 a3 a4 a6 a7 a8
  refine kk H locs ls a1 a2 a3 a4 (fun q hq => a6 q (hs q hq)) a7 ⟨a8.1, a8.2.1, fun q hq => ?_⟩
  obtain ⟨z, hz, rfl⟩ := List.mem_map.mp hq
  exact a8.2.2 _ (List.mem_map.mpr ⟨z, hs z hz, rfl⟩)
theorem Wg_widen {X : GxT} {pc k k' : Nat} {L : List (Nat × Vv)} {st : List Vv} {h : Hp} (hk : k ≤ k') (kk : Wg X pc L st h k') : Wg X pc L st h k := by
  obtain ⟨p, l, e, R, s, m, args, below, meth, c, D, ad, cI, cZ, cJ, A, Q, sb⟩ := X
  intro H locs ls a1 a2 a3 a4 a6 a7 a8
  exact W.widen (k := k') (n := 6 * k' + sb) hk (by omega) (kk H locs ls a1 a2 a3 a4 a6 a7 a8)
theorem v1w (xs : List Int) : ∀ v ∈ vr 0 :: (xs.map vi ++ [vr 47]), v1 v := by
  intro v hv
  rcases List.mem_cons.mp hv with rfl | hv
  · exact trivial
  · rcases List.mem_append.mp hv with hv | hv
    · exact v1s xs v hv
    · cases List.mem_singleton.mp hv; exact trivial
def jb (x : Int) : Int := if x = 0 then 0 else 1
theorem jb_or (x : Int) : jb x = 0 ∨ jb x = 1 := by
  unfold jb
  by_cases h : x = 0
  · exact Or.inl (if_pos h)
  · exact Or.inr (if_neg h)
section LawRows
variable {X : GxT} {N : Nat} {xs : Nat → Int32} {i : Int} {h : Hp} {kc : Nat}
theorem g_bool {pc : Nat} {L : List (Nat × Vv)} {st : List Vv} {x : Int} (C : GX X cL_law 12 436 7 1084) (d1 : decode cL_law pc = .ok (.ifCond .eq 7, 3)) (d2 : decode cL_law (pc + 3) = .ok (.iconst 1, 1)) (d3 : decode cL_law (pc + 4) = .ok (.goto 4, 3)) (d4 : decode cL_law (pc + 7) = .ok (.iconst 0, 1)) (kk : Wg X (pc + 8) L (vi (jb x) :: st) h kc) : Wg X pc L (vi x :: st) h kc := by
  refine g_if_eq (tgt := pc + 7) C d1 (by omega) (fun z => ?_) (fun z => ?_)
  · refine g_iconst C d4 inR_0 ?_
    have e : jb x = 0 := if_pos z
    rw [e] at kk
    exact kk
  · refine g_iconst C d2 inR_1 ?_
    refine g_goto (tgt := pc + 8) C d3 (by omega) ?_
    have e : jb x = 1 := if_neg z
    rw [e] at kk
    exact kk
/-- script[i + j] -/
theorem g_arg {pc : Nat} {L : List (Nat × Vv)} {st : List Vv} {j : Int} (n0 n4 : Nat) (C : GX X cL_law 12 436 7 1084) (S : GS X N xs) (hN : N ≤ 2560) (hi : 0 ≤ i ∧ i + 5 ≤ (N : Int)) (hj : 0 ≤ j ∧ j < 5) (d1 : decode cL_law pc = .ok (.aload_n 0, 1)) (d2 : decode cL_law (pc + 1) = .ok (.iload 4, 2)) (d3 : decode cL_law (pc + 3) = .ok (.iconst j, 1)) (d4 : decode cL_law (pc + 4) = .ok (.iadd, 1)) (d5 : decode cL_law (pc + 5) = .ok (.iaload, 1)) (h0 : L[n0]? = some (0, vr 48)) (h4 : L[n4]? = some (4, vi i)) (kk : Wg X (pc + 6) L (vi (xs (i + j).toNat).toInt :: st) h kc) : Wg X pc L st h kc := by
  refine g_aload_n n0 C d1 h0 ?_
  refine g_iload n4 C d2 h4 ?_
  refine g_iconst C d3 ⟨by omega, by omega⟩ ?_
  refine g_iadd C d4 ⟨by omega, by omega⟩ ?_
  exact g_sld C S d5 ⟨by omega, by omega⟩ kk
theorem ck_L_77 : CallOk yX6_thrown cX6_thrown 1 (some .int) RX6 RL 77 0 := ⟨rfl, ⟨by decide, by decide, by decide +kernel⟩, by decide +kernel, by decide +kernel, by decide +kernel, by decide +kernel, by decide +kernel⟩
theorem lw_tail {P : Nat} {off k b : Int} (C : GX X cL_law 12 436 7 1084) (hk : kc ≤ 1084) (e1 : h 30 0 = k) (e2 : k = 0 → b = h 47 0) (d0 : decode cL_law (P + 0) = .ok (.aload_n 2, 1)) (d1 : decode cL_law (P + 1) = .ok (.invokevirtual 77, 3)) (d4 : decode cL_law (P + 4) = .ok (.iload 5, 2)) (d6 : decode cL_law (P + 6) = .ok (.if_icmp .eq 5, 3)) (d11 : decode cL_law (P + 11) = .ok (.iload 5, 2)) (d13 : decode cL_law (P + 13) = .ok (.ifCond .ne 15, 3)) (d16 : decode cL_law (P + 16) = .ok (.aload_n 3, 1)) (d17 : decode cL_law (P + 17) = .ok (.iconst 0, 1)) (d18 : decode cL_law (P + 18) = .ok (.laload, 1)) (d19 : decode cL_law (P + 19) = .ok (.iload 6, 2)) (d21 : decode cL_law (P + 21) = .ok (.i2l, 1)) (d22 : decode cL_law (P + 22) = .ok (.lcmp, 1)) (d23 : decode cL_law (P + 23) = .ok (.ifCond .eq 5, 3)) (d28 : decode cL_law (P + 28) = .ok (.goto off, 3)) (ht : ((P + 28 : Nat) : Int) + off = ((1173 : Nat) : Int)) (kk : Wg X 1173 (L0 i) [] h kc) : Wg X P ((6, vi b) :: (5, vi k) :: L0 i) [] h kc := by
  refine g_aload_n 4 C d0 rfl ?_
  refine g_calli (av := []) (rest := []) (r := 30) (ci := 6) (Cn := RX6) (T := TX6) (N := 24) C d1 (ct_thrown h) ck_L_77 rfl rfl rfl (v1s []) (by decide) (by decide) (by decide) hk (fun E hE => absurd hE id) ?_
  intro r h' f' rh ir po
  cases fr0 f'
  have kk2 : Wg X 1173 ((6, vi b) :: (5, vi k) :: L0 i) [] h kc := Wg_drop (fun q hq => List.mem_cons_of_mem _ (List.mem_cons_of_mem _ hq)) kk
  refine g_iload 1 C d4 rfl ?_
  refine g_icmp_eq (tgt := P + 11) C d6 (by omega) (po.trans e1) ?_
  refine g_iload 1 C d11 rfl ?_
  refine g_if_ne (tgt := P + 28) C d13 (by omega) (fun z => g_goto C d28 ht kk2) (fun z => ?_)
  refine g_aload_n 3 C d16 rfl ?_
  refine g_iconst C d17 inR_0 ?_
  refine g_laload (r := 47) (N := 1) C d18 rfl (by decide) ?_
  refine g_iload 0 C d19 rfl ?_
  refine g_i2l C d21 ?_
  refine g_lcmp_eq C d22 (e2 z).symm ?_
  exact g_if_eq (tgt := P + 28) C d23 (by omega) (fun _ => g_goto C d28 ht kk2) (fun q => absurd rfl q)
theorem stk_vertex : StatOk yL_vertex cL_vertex 3 [(0, 8, 11, 13)] 71 2 := ⟨⟨by decide, by decide, by decide +kernel⟩, by decide +kernel, by decide +kernel, by decide +kernel, by decide +kernel⟩
theorem ck_L_76 : CallOk yX6_vertex cX6_vertex 1 (some .int) RX6 RL 76 0 := ⟨rfl, ⟨by decide, by decide, by decide +kernel⟩, by decide +kernel, by decide +kernel, by decide +kernel, by decide +kernel, by decide +kernel⟩
set_option maxHeartbeats 2000000 in
theorem lc_vertex (C : GX X cL_law 12 436 7 1084) (S : GS X N xs) (hN : N ≤ 2560) (hst : (Gl X).stackTraces = false) (A : ALL h) (hi : 0 ≤ i ∧ i + 5 ≤ (N : Int)) (hk : kc + 1 ≤ 1084) (kk : ∀ h2, ALL h2 → Wg X 1173 (L0 i) [] h2 (kc + 1)) : Wg X 140 (L0 i) [] h kc := by
  refine g_aload_n 3 C dL_law_140 rfl ?_
  refine g_aload_n 1 C dL_law_141 rfl ?_
  refine g_calls (mcY := 0) (tyY := .int) (av := [vr 0, vr 47]) (rest := []) C dL_law_142 (cl_vertex hst h A.cs) stk_vertex rfl (v1w []) (by decide) (by decide) (by decide) hk ?_
  intro k h1 f1 rh1 ik wp
  obtain ⟨g1, g2⟩ := ot_vertex A wp
  refine g_istore (L' := (5, vi k) :: L0 i) C dL_law_145 (by decide) rfl ?_
  refine g_aload_n 3 C dL_law_147 rfl ?_
  refine g_calli (av := []) (rest := []) (r := 30) (ci := 6) (Cn := RX6) (T := TX6) (N := 24) C dL_law_148 (ct_mvertex h1 g1) ck_L_76 rfl rfl rfl (v1s []) (by decide) (by decide) (by decide) hk (fun E hE => absurd hE id) ?_
  intro b h2 f2 rh2 ib po
  obtain ⟨s1, s2, s3⟩ := g2 b h2 f2 po
  refine g_istore (L' := (6, vi b) :: (5, vi k) :: L0 i) C dL_law_151 (by decide) rfl ?_
  exact lw_tail C hk s1 (fun z => by rw [s2 z, f2 47 (by decide)]) dL_law_153 dL_law_154 dL_law_157 dL_law_159 dL_law_164 dL_law_166 dL_law_169 dL_law_170 dL_law_171 dL_law_172 dL_law_174 dL_law_175 dL_law_176 dL_law_181 rfl (kk h2 s3)
theorem stk_edge : StatOk yL_edge cL_edge 7 [(0, 14, 17, 19), (0, 14, 21, 21), (0, 14, 25, 13)] 80 6 := ⟨⟨by decide, by decide, by decide +kernel⟩, by decide +kernel, by decide +kernel, by decide +kernel, by decide +kernel⟩
theorem ck_L_83 : CallOk yX6_edge cX6_edge 6 (some .int) RX6 RL 83 4 := ⟨rfl, ⟨by decide, by decide, by decide +kernel⟩, by decide +kernel, by decide +kernel, by decide +kernel, by decide +kernel, by decide +kernel⟩
set_option maxHeartbeats 2000000 in
theorem lc_edge (C : GX X cL_law 12 436 7 1084) (S : GS X N xs) (hN : N ≤ 2560) (hst : (Gl X).stackTraces = false) (A : ALL h) (hi : 0 ≤ i ∧ i + 5 ≤ (N : Int)) (hk : kc + 1 ≤ 1084) (kk : ∀ h2, ALL h2 → Wg X 1173 (L0 i) [] h2 (kc + 1)) : Wg X 184 (L0 i) [] h kc := by
  refine g_aload_n 3 C dL_law_184 rfl ?_
  refine g_arg (j := 1) 4 0 C S hN hi (by decide) dL_law_185 dL_law_186 dL_law_188 dL_law_189 dL_law_190 rfl rfl ?_
  refine g_arg (j := 2) 4 0 C S hN hi (by decide) dL_law_191 dL_law_192 dL_law_194 dL_law_195 dL_law_196 rfl rfl ?_
  refine g_arg (j := 3) 4 0 C S hN hi (by decide) dL_law_197 dL_law_198 dL_law_200 dL_law_201 dL_law_202 rfl rfl ?_
  refine g_arg (j := 4) 4 0 C S hN hi (by decide) dL_law_203 dL_law_204 dL_law_206 dL_law_207 dL_law_208 rfl rfl ?_
  refine g_aload_n 1 C dL_law_209 rfl ?_
  refine g_calls (mcY := 0) (tyY := .int) (av := [vr 0, vi ((xs (i + 1).toNat).toInt), vi ((xs (i + 2).toNat).toInt), vi ((xs (i + 3).toNat).toInt), vi ((xs (i + 4).toNat).toInt), vr 47]) (rest := []) C dL_law_210 (cl_edge hst ((xs (i + 1).toNat).toInt) ((xs (i + 2).toNat).toInt) ((xs (i + 3).toNat).toInt) ((xs (i + 4).toNat).toInt) h A.cs) stk_edge rfl (v1w [(xs (i + 1).toNat).toInt, (xs (i + 2).toNat).toInt, (xs (i + 3).toNat).toInt, (xs (i + 4).toNat).toInt]) (by decide) (by decide) (by decide) hk ?_
  intro k h1 f1 rh1 ik wp
  obtain ⟨g1, g2⟩ := ot_edge A wp
  refine g_istore (L' := (5, vi k) :: L0 i) C dL_law_213 (by decide) rfl ?_
  refine g_aload_n 3 C dL_law_215 rfl ?_
  refine g_arg (j := 1) 5 1 C S hN hi (by decide) dL_law_216 dL_law_217 dL_law_219 dL_law_220 dL_law_221 rfl rfl ?_
  refine g_arg (j := 2) 5 1 C S hN hi (by decide) dL_law_222 dL_law_223 dL_law_225 dL_law_226 dL_law_227 rfl rfl ?_
  refine g_arg (j := 3) 5 1 C S hN hi (by decide) dL_law_228 dL_law_229 dL_law_231 dL_law_232 dL_law_233 rfl rfl ?_
  refine g_arg (j := 4) 5 1 C S hN hi (by decide) dL_law_234 dL_law_235 dL_law_237 dL_law_238 dL_law_239 rfl rfl ?_
  refine g_calli (av := [vi ((xs (i + 1).toNat).toInt), vi ((xs (i + 2).toNat).toInt), vi ((xs (i + 3).toNat).toInt), vi ((xs (i + 4).toNat).toInt)]) (rest := []) (r := 30) (ci := 6) (Cn := RX6) (T := TX6) (N := 24) C dL_law_240 (ct_medge ((xs (i + 1).toNat).toInt) ((xs (i + 2).toNat).toInt) ((xs (i + 3).toNat).toInt) ((xs (i + 4).toNat).toInt) h1 g1) ck_L_83 rfl rfl rfl (v1s [(xs (i + 1).toNat).toInt, (xs (i + 2).toNat).toInt, (xs (i + 3).toNat).toInt, (xs (i + 4).toNat).toInt]) (by decide) (by decide) (by decide) hk (fun E hE => absurd hE id) ?_
  intro b h2 f2 rh2 ib po
  obtain ⟨s1, s2, s3⟩ := g2 b h2 f2 po
  refine g_istore (L' := (6, vi b) :: (5, vi k) :: L0 i) C dL_law_243 (by decide) rfl ?_
  exact lw_tail C hk s1 (fun z => by rw [s2 z, f2 47 (by decide)]) dL_law_245 dL_law_246 dL_law_249 dL_law_251 dL_law_256 dL_law_258 dL_law_261 dL_law_262 dL_law_263 dL_law_264 dL_law_266 dL_law_267 dL_law_268 dL_law_273 rfl (kk h2 s3)
theorem stk_remove : StatOk yL_remove cL_remove 4 [(0, 9, 12, 19)] 84 3 := ⟨⟨by decide, by decide, by decide +kernel⟩, by decide +kernel, by decide +kernel, by decide +kernel, by decide +kernel⟩
theorem ck_L_87 : CallOk yX6_remove cX6_remove 2 (some .int) RX6 RL 87 1 := ⟨rfl, ⟨by decide, by decide, by decide +kernel⟩, by decide +kernel, by decide +kernel, by decide +kernel, by decide +kernel, by decide +kernel⟩
set_option maxHeartbeats 2000000 in
theorem lc_remove (C : GX X cL_law 12 436 7 1084) (S : GS X N xs) (hN : N ≤ 2560) (hst : (Gl X).stackTraces = false) (A : ALL h) (hi : 0 ≤ i ∧ i + 5 ≤ (N : Int)) (hk : kc + 1 ≤ 1084) (kk : ∀ h2, ALL h2 → Wg X 1173 (L0 i) [] h2 (kc + 1)) : Wg X 276 (L0 i) [] h kc := by
  refine g_aload_n 3 C dL_law_276 rfl ?_
  refine g_arg (j := 1) 4 0 C S hN hi (by decide) dL_law_277 dL_law_278 dL_law_280 dL_law_281 dL_law_282 rfl rfl ?_
  refine g_aload_n 1 C dL_law_283 rfl ?_
  refine g_calls (mcY := 0) (tyY := .int) (av := [vr 0, vi ((xs (i + 1).toNat).toInt), vr 47]) (rest := []) C dL_law_284 (cl_remove hst ((xs (i + 1).toNat).toInt) h A.cs) stk_remove rfl (v1w [(xs (i + 1).toNat).toInt]) (by decide) (by decide) (by decide) hk ?_
  intro k h1 f1 rh1 ik wp
  obtain ⟨g1, g2⟩ := ot_remove A wp
  refine g_istore (L' := (5, vi k) :: L0 i) C dL_law_287 (by decide) rfl ?_
  refine g_aload_n 3 C dL_law_289 rfl ?_
  refine g_arg (j := 1) 5 1 C S hN hi (by decide) dL_law_290 dL_law_291 dL_law_293 dL_law_294 dL_law_295 rfl rfl ?_
  refine g_calli (av := [vi ((xs (i + 1).toNat).toInt)]) (rest := []) (r := 30) (ci := 6) (Cn := RX6) (T := TX6) (N := 24) C dL_law_296 (ct_mremove ((xs (i + 1).toNat).toInt) h1 g1) ck_L_87 rfl rfl rfl (v1s [(xs (i + 1).toNat).toInt]) (by decide) (by decide) (by decide) hk (fun E hE => absurd hE id) ?_
  intro b h2 f2 rh2 ib po
  obtain ⟨s1, s2, s3⟩ := g2 b h2 f2 po
  refine g_istore (L' := (6, vi b) :: (5, vi k) :: L0 i) C dL_law_299 (by decide) rfl ?_
  exact lw_tail C hk s1 (fun z => by rw [s2 z, f2 47 (by decide)]) dL_law_301 dL_law_302 dL_law_305 dL_law_307 dL_law_312 dL_law_314 dL_law_317 dL_law_318 dL_law_319 dL_law_320 dL_law_322 dL_law_323 dL_law_324 dL_law_329 rfl (kk h2 s3)
theorem stk_degree : StatOk yL_degree cL_degree 4 [(0, 9, 12, 19)] 88 3 := ⟨⟨by decide, by decide, by decide +kernel⟩, by decide +kernel, by decide +kernel, by decide +kernel, by decide +kernel⟩
theorem ck_L_90 : CallOk yX6_degree cX6_degree 2 (some .int) RX6 RL 90 1 := ⟨rfl, ⟨by decide, by decide, by decide +kernel⟩, by decide +kernel, by decide +kernel, by decide +kernel, by decide +kernel, by decide +kernel⟩
set_option maxHeartbeats 2000000 in
theorem lc_degree (C : GX X cL_law 12 436 7 1084) (S : GS X N xs) (hN : N ≤ 2560) (hst : (Gl X).stackTraces = false) (A : ALL h) (hi : 0 ≤ i ∧ i + 5 ≤ (N : Int)) (hk : kc + 1 ≤ 1084) (kk : ∀ h2, ALL h2 → Wg X 1173 (L0 i) [] h2 (kc + 1)) : Wg X 332 (L0 i) [] h kc := by
  refine g_aload_n 3 C dL_law_332 rfl ?_
  refine g_arg (j := 1) 4 0 C S hN hi (by decide) dL_law_333 dL_law_334 dL_law_336 dL_law_337 dL_law_338 rfl rfl ?_
  refine g_aload_n 1 C dL_law_339 rfl ?_
  refine g_calls (mcY := 0) (tyY := .int) (av := [vr 0, vi ((xs (i + 1).toNat).toInt), vr 47]) (rest := []) C dL_law_340 (cl_degree hst ((xs (i + 1).toNat).toInt) h A.cs) stk_degree rfl (v1w [(xs (i + 1).toNat).toInt]) (by decide) (by decide) (by decide) hk ?_
  intro k h1 f1 rh1 ik wp
  obtain ⟨g1, g2⟩ := ot_degree A wp
  refine g_istore (L' := (5, vi k) :: L0 i) C dL_law_343 (by decide) rfl ?_
  refine g_aload_n 3 C dL_law_345 rfl ?_
  refine g_arg (j := 1) 5 1 C S hN hi (by decide) dL_law_346 dL_law_347 dL_law_349 dL_law_350 dL_law_351 rfl rfl ?_
  refine g_calli (av := [vi ((xs (i + 1).toNat).toInt)]) (rest := []) (r := 30) (ci := 6) (Cn := RX6) (T := TX6) (N := 24) C dL_law_352 (ct_mdegree ((xs (i + 1).toNat).toInt) h1 g1) ck_L_90 rfl rfl rfl (v1s [(xs (i + 1).toNat).toInt]) (by decide) (by decide) (by decide) hk (fun E hE => absurd hE id) ?_
  intro b h2 f2 rh2 ib po
  obtain ⟨s1, s2, s3⟩ := g2 b h2 f2 po
  refine g_istore (L' := (6, vi b) :: (5, vi k) :: L0 i) C dL_law_355 (by decide) rfl ?_
  exact lw_tail C hk s1 (fun z => by rw [s2 z, f2 47 (by decide)]) dL_law_357 dL_law_358 dL_law_361 dL_law_363 dL_law_368 dL_law_370 dL_law_373 dL_law_374 dL_law_375 dL_law_376 dL_law_378 dL_law_379 dL_law_380 dL_law_385 rfl (kk h2 s3)
theorem stk_round : StatOk yL_round cL_round 5 [(0, 10, 13, 19)] 91 4 := ⟨⟨by decide, by decide, by decide +kernel⟩, by decide +kernel, by decide +kernel, by decide +kernel, by decide +kernel⟩
theorem ck_L_94 : CallOk yX6_round cX6_round 3 (some .int) RX6 RL 94 2 := ⟨rfl, ⟨by decide, by decide, by decide +kernel⟩, by decide +kernel, by decide +kernel, by decide +kernel, by decide +kernel, by decide +kernel⟩
set_option maxHeartbeats 2000000 in
theorem lc_round (C : GX X cL_law 12 436 7 1084) (S : GS X N xs) (hN : N ≤ 2560) (hst : (Gl X).stackTraces = false) (A : ALL h) (hi : 0 ≤ i ∧ i + 5 ≤ (N : Int)) (hk : kc + 1 ≤ 1084) (kk : ∀ h2, ALL h2 → Wg X 1173 (L0 i) [] h2 (kc + 1)) : Wg X 388 (L0 i) [] h kc := by
  refine g_aload_n 3 C dL_law_388 rfl ?_
  refine g_arg (j := 1) 4 0 C S hN hi (by decide) dL_law_389 dL_law_390 dL_law_392 dL_law_393 dL_law_394 rfl rfl ?_
  refine g_arg (j := 2) 4 0 C S hN hi (by decide) dL_law_395 dL_law_396 dL_law_398 dL_law_399 dL_law_400 rfl rfl ?_
  refine g_aload_n 1 C dL_law_401 rfl ?_
  refine g_calls (mcY := 0) (tyY := .int) (av := [vr 0, vi ((xs (i + 1).toNat).toInt), vi ((xs (i + 2).toNat).toInt), vr 47]) (rest := []) C dL_law_402 (cl_round hst ((xs (i + 1).toNat).toInt) ((xs (i + 2).toNat).toInt) h A.cs) stk_round rfl (v1w [(xs (i + 1).toNat).toInt, (xs (i + 2).toNat).toInt]) (by decide) (by decide) (by decide) hk ?_
  intro k h1 f1 rh1 ik wp
  obtain ⟨g1, g2⟩ := ot_round A wp
  refine g_istore (L' := (5, vi k) :: L0 i) C dL_law_405 (by decide) rfl ?_
  refine g_aload_n 3 C dL_law_407 rfl ?_
  refine g_arg (j := 1) 5 1 C S hN hi (by decide) dL_law_408 dL_law_409 dL_law_411 dL_law_412 dL_law_413 rfl rfl ?_
  refine g_arg (j := 2) 5 1 C S hN hi (by decide) dL_law_414 dL_law_415 dL_law_417 dL_law_418 dL_law_419 rfl rfl ?_
  refine g_calli (av := [vi ((xs (i + 1).toNat).toInt), vi ((xs (i + 2).toNat).toInt)]) (rest := []) (r := 30) (ci := 6) (Cn := RX6) (T := TX6) (N := 24) C dL_law_420 (ct_mround ((xs (i + 1).toNat).toInt) ((xs (i + 2).toNat).toInt) h1 g1) ck_L_94 rfl rfl rfl (v1s [(xs (i + 1).toNat).toInt, (xs (i + 2).toNat).toInt]) (by decide) (by decide) (by decide) hk (fun E hE => absurd hE id) ?_
  intro b h2 f2 rh2 ib po
  obtain ⟨s1, s2, s3⟩ := g2 b h2 f2 po
  refine g_istore (L' := (6, vi b) :: (5, vi k) :: L0 i) C dL_law_423 (by decide) rfl ?_
  exact lw_tail C hk s1 (fun z => by rw [s2 z, f2 47 (by decide)]) dL_law_425 dL_law_426 dL_law_429 dL_law_431 dL_law_436 dL_law_438 dL_law_441 dL_law_442 dL_law_443 dL_law_444 dL_law_446 dL_law_447 dL_law_448 dL_law_453 rfl (kk h2 s3)
theorem stk_end : StatOk yL_end cL_end 5 [(0, 10, 13, 19)] 95 4 := ⟨⟨by decide, by decide, by decide +kernel⟩, by decide +kernel, by decide +kernel, by decide +kernel, by decide +kernel⟩
theorem ck_L_98 : CallOk yX6_end cX6_end 3 (some .int) RX6 RL 98 2 := ⟨rfl, ⟨by decide, by decide, by decide +kernel⟩, by decide +kernel, by decide +kernel, by decide +kernel, by decide +kernel, by decide +kernel⟩
set_option maxHeartbeats 2000000 in
theorem lc_end (C : GX X cL_law 12 436 7 1084) (S : GS X N xs) (hN : N ≤ 2560) (hst : (Gl X).stackTraces = false) (A : ALL h) (hi : 0 ≤ i ∧ i + 5 ≤ (N : Int)) (hk : kc + 1 ≤ 1084) (kk : ∀ h2, ALL h2 → Wg X 1173 (L0 i) [] h2 (kc + 1)) : Wg X 456 (L0 i) [] h kc := by
  refine g_aload_n 3 C dL_law_456 rfl ?_
  refine g_arg (j := 1) 4 0 C S hN hi (by decide) dL_law_457 dL_law_458 dL_law_460 dL_law_461 dL_law_462 rfl rfl ?_
  refine g_arg (j := 2) 4 0 C S hN hi (by decide) dL_law_463 dL_law_464 dL_law_466 dL_law_467 dL_law_468 rfl rfl ?_
  refine g_bool C dL_law_469 dL_law_472 dL_law_473 dL_law_476 ?_
  refine g_aload_n 1 C dL_law_477 rfl ?_
  refine g_calls (mcY := 0) (tyY := .int) (av := [vr 0, vi ((xs (i + 1).toNat).toInt), vi ((jb (xs (i + 2).toNat).toInt)), vr 47]) (rest := []) C dL_law_478 (cl_end hst ((xs (i + 1).toNat).toInt) ((jb (xs (i + 2).toNat).toInt)) h A.cs) stk_end rfl (v1w [(xs (i + 1).toNat).toInt, (jb (xs (i + 2).toNat).toInt)]) (by decide) (by decide) (by decide) hk ?_
  intro k h1 f1 rh1 ik wp
  obtain ⟨g1, g2⟩ := ot_end A wp
  refine g_istore (L' := (5, vi k) :: L0 i) C dL_law_481 (by decide) rfl ?_
  refine g_aload_n 3 C dL_law_483 rfl ?_
  refine g_arg (j := 1) 5 1 C S hN hi (by decide) dL_law_484 dL_law_485 dL_law_487 dL_law_488 dL_law_489 rfl rfl ?_
  refine g_arg (j := 2) 5 1 C S hN hi (by decide) dL_law_490 dL_law_491 dL_law_493 dL_law_494 dL_law_495 rfl rfl ?_
  refine g_bool C dL_law_496 dL_law_499 dL_law_500 dL_law_503 ?_
  refine g_calli (av := [vi ((xs (i + 1).toNat).toInt), vi ((jb (xs (i + 2).toNat).toInt))]) (rest := []) (r := 30) (ci := 6) (Cn := RX6) (T := TX6) (N := 24) C dL_law_504 (ct_mend ((xs (i + 1).toNat).toInt) ((jb (xs (i + 2).toNat).toInt)) h1 g1) ck_L_98 rfl rfl rfl (v1s [(xs (i + 1).toNat).toInt, (jb (xs (i + 2).toNat).toInt)]) (by decide) (by decide) (by decide) hk (fun E hE => absurd hE id) ?_
  intro b h2 f2 rh2 ib po
  obtain ⟨s1, s2, s3⟩ := g2 b h2 f2 po
  refine g_istore (L' := (6, vi b) :: (5, vi k) :: L0 i) C dL_law_507 (by decide) rfl ?_
  exact lw_tail C hk s1 (fun z => by rw [s2 z, f2 47 (by decide)]) dL_law_509 dL_law_510 dL_law_513 dL_law_515 dL_law_520 dL_law_522 dL_law_525 dL_law_526 dL_law_527 dL_law_528 dL_law_530 dL_law_531 dL_law_532 dL_law_537 rfl (kk h2 s3)
theorem ck_L_99 : CallOk yX5_faces cX5_faces 1 (some .int) RX5 RL 99 0 := ⟨rfl, ⟨by decide, by decide, by decide +kernel⟩, by decide +kernel, by decide +kernel, by decide +kernel, by decide +kernel, by decide +kernel⟩
theorem ck_L_102 : CallOk yX6_faces cX6_faces 1 (some .int) RX6 RL 102 0 := ⟨rfl, ⟨by decide, by decide, by decide +kernel⟩, by decide +kernel, by decide +kernel, by decide +kernel, by decide +kernel, by decide +kernel⟩
set_option maxHeartbeats 2000000 in
theorem lc_faces (C : GX X cL_law 12 436 7 1084) (S : GS X N xs) (hN : N ≤ 2560) (hst : (Gl X).stackTraces = false) (A : ALL h) (hi : 0 ≤ i ∧ i + 5 ≤ (N : Int)) (hk : kc + 1 ≤ 1084) (kk : ∀ h2, ALL h2 → Wg X 1173 (L0 i) [] h2 (kc + 1)) : Wg X 540 (L0 i) [] h kc := by
  refine g_aload_n 3 C dL_law_540 rfl ?_
  refine g_calli (av := []) (rest := []) (r := 0) (ci := 5) (Cn := RX5) (T := TX5) (N := 5) C dL_law_541 (ct_faces h A.cs) ck_L_99 rfl rfl rfl (v1s []) (by decide) (by decide) (by decide) (Nat.le_of_succ_le hk) (fun E hE => absurd hE id) ?_
  intro r h1 f1 rh1 ir po
  cases fr0 f1
  obtain ⟨g1, g2⟩ := st_faces A po
  refine g_aload_n 2 C dL_law_544 rfl ?_
  refine g_calli (av := []) (rest := [vi r]) (r := 30) (ci := 6) (Cn := RX6) (T := TX6) (N := 24) C dL_law_545 (ct_mfaces h g1) ck_L_102 rfl rfl rfl (v1s []) (by decide) (by decide) (Nat.le_of_ble_eq_true rfl) (Nat.le_of_succ_le hk) (fun E hE => absurd hE id) ?_
  intro b h2 f2 rh2 ib po2
  obtain ⟨s1, s2⟩ := g2 b h2 f2 po2
  exact g_icmp_eq (tgt := 1173) C dL_law_548 rfl s1.symm (Wg_widen (Nat.le_succ kc) (kk h2 s2))
theorem stk_sides : StatOk yL_sides cL_sides 4 [(0, 9, 12, 19)] 103 3 := ⟨⟨by decide, by decide, by decide +kernel⟩, by decide +kernel, by decide +kernel, by decide +kernel, by decide +kernel⟩
theorem ck_L_105 : CallOk yX6_sides cX6_sides 2 (some .int) RX6 RL 105 1 := ⟨rfl, ⟨by decide, by decide, by decide +kernel⟩, by decide +kernel, by decide +kernel, by decide +kernel, by decide +kernel, by decide +kernel⟩
set_option maxHeartbeats 2000000 in
theorem lc_sides (C : GX X cL_law 12 436 7 1084) (S : GS X N xs) (hN : N ≤ 2560) (hst : (Gl X).stackTraces = false) (A : ALL h) (hi : 0 ≤ i ∧ i + 5 ≤ (N : Int)) (hk : kc + 1 ≤ 1084) (kk : ∀ h2, ALL h2 → Wg X 1173 (L0 i) [] h2 (kc + 1)) : Wg X 553 (L0 i) [] h kc := by
  refine g_aload_n 3 C dL_law_553 rfl ?_
  refine g_arg (j := 1) 4 0 C S hN hi (by decide) dL_law_554 dL_law_555 dL_law_557 dL_law_558 dL_law_559 rfl rfl ?_
  refine g_aload_n 1 C dL_law_560 rfl ?_
  refine g_calls (mcY := 0) (tyY := .int) (av := [vr 0, vi ((xs (i + 1).toNat).toInt), vr 47]) (rest := []) C dL_law_561 (cl_sides hst ((xs (i + 1).toNat).toInt) h A.cs) stk_sides rfl (v1w [(xs (i + 1).toNat).toInt]) (by decide) (by decide) (by decide) hk ?_
  intro k h1 f1 rh1 ik wp
  obtain ⟨g1, g2⟩ := ot_sides A wp
  refine g_istore (L' := (5, vi k) :: L0 i) C dL_law_564 (by decide) rfl ?_
  refine g_aload_n 3 C dL_law_566 rfl ?_
  refine g_arg (j := 1) 5 1 C S hN hi (by decide) dL_law_567 dL_law_568 dL_law_570 dL_law_571 dL_law_572 rfl rfl ?_
  refine g_calli (av := [vi ((xs (i + 1).toNat).toInt)]) (rest := []) (r := 30) (ci := 6) (Cn := RX6) (T := TX6) (N := 24) C dL_law_573 (ct_msides ((xs (i + 1).toNat).toInt) h1 g1) ck_L_105 rfl rfl rfl (v1s [(xs (i + 1).toNat).toInt]) (by decide) (by decide) (by decide) hk (fun E hE => absurd hE id) ?_
  intro b h2 f2 rh2 ib po
  obtain ⟨s1, s2, s3⟩ := g2 b h2 f2 po
  refine g_istore (L' := (6, vi b) :: (5, vi k) :: L0 i) C dL_law_576 (by decide) rfl ?_
  exact lw_tail C hk s1 (fun z => by rw [s2 z, f2 47 (by decide)]) dL_law_578 dL_law_579 dL_law_582 dL_law_584 dL_law_589 dL_law_591 dL_law_594 dL_law_595 dL_law_596 dL_law_597 dL_law_599 dL_law_600 dL_law_601 dL_law_606 rfl (kk h2 s3)
theorem stk_from : StatOk yL_from cL_from 5 [(0, 10, 13, 19)] 106 4 := ⟨⟨by decide, by decide, by decide +kernel⟩, by decide +kernel, by decide +kernel, by decide +kernel, by decide +kernel⟩
theorem ck_L_108 : CallOk yX6_from cX6_from 5 (some .int) RX6 RL 108 2 := ⟨rfl, ⟨by decide, by decide, by decide +kernel⟩, by decide +kernel, by decide +kernel, by decide +kernel, by decide +kernel, by decide +kernel⟩
set_option maxHeartbeats 2000000 in
theorem lc_from (C : GX X cL_law 12 436 7 1084) (S : GS X N xs) (hN : N ≤ 2560) (hst : (Gl X).stackTraces = false) (A : ALL h) (hi : 0 ≤ i ∧ i + 5 ≤ (N : Int)) (hk : kc + 1 ≤ 1084) (kk : ∀ h2, ALL h2 → Wg X 1173 (L0 i) [] h2 (kc + 1)) : Wg X 609 (L0 i) [] h kc := by
  refine g_aload_n 3 C dL_law_609 rfl ?_
  refine g_arg (j := 1) 4 0 C S hN hi (by decide) dL_law_610 dL_law_611 dL_law_613 dL_law_614 dL_law_615 rfl rfl ?_
  refine g_arg (j := 2) 4 0 C S hN hi (by decide) dL_law_616 dL_law_617 dL_law_619 dL_law_620 dL_law_621 rfl rfl ?_
  refine g_aload_n 1 C dL_law_622 rfl ?_
  refine g_calls (mcY := 0) (tyY := .int) (av := [vr 0, vi ((xs (i + 1).toNat).toInt), vi ((xs (i + 2).toNat).toInt), vr 47]) (rest := []) C dL_law_623 (cl_from hst ((xs (i + 1).toNat).toInt) ((xs (i + 2).toNat).toInt) h A.cs) stk_from rfl (v1w [(xs (i + 1).toNat).toInt, (xs (i + 2).toNat).toInt]) (by decide) (by decide) (by decide) hk ?_
  intro k h1 f1 rh1 ik wp
  obtain ⟨g1, g2⟩ := ot_from A wp
  refine g_istore (L' := (5, vi k) :: L0 i) C dL_law_626 (by decide) rfl ?_
  refine g_aload_n 3 C dL_law_628 rfl ?_
  refine g_arg (j := 1) 5 1 C S hN hi (by decide) dL_law_629 dL_law_630 dL_law_632 dL_law_633 dL_law_634 rfl rfl ?_
  refine g_arg (j := 2) 5 1 C S hN hi (by decide) dL_law_635 dL_law_636 dL_law_638 dL_law_639 dL_law_640 rfl rfl ?_
  refine g_calli (av := [vi ((xs (i + 1).toNat).toInt), vi ((xs (i + 2).toNat).toInt)]) (rest := []) (r := 30) (ci := 6) (Cn := RX6) (T := TX6) (N := 24) C dL_law_641 (ct_mfrom ((xs (i + 1).toNat).toInt) ((xs (i + 2).toNat).toInt) h1 g1) ck_L_108 rfl rfl rfl (v1s [(xs (i + 1).toNat).toInt, (xs (i + 2).toNat).toInt]) (by decide) (by decide) (by decide) hk (fun E hE => absurd hE id) ?_
  intro b h2 f2 rh2 ib po
  obtain ⟨s1, s2, s3⟩ := g2 b h2 f2 po
  refine g_istore (L' := (6, vi b) :: (5, vi k) :: L0 i) C dL_law_644 (by decide) rfl ?_
  exact lw_tail C hk s1 (fun z => by rw [s2 z, f2 47 (by decide)]) dL_law_646 dL_law_647 dL_law_650 dL_law_652 dL_law_657 dL_law_659 dL_law_662 dL_law_663 dL_law_664 dL_law_665 dL_law_667 dL_law_668 dL_law_669 dL_law_674 rfl (kk h2 s3)
theorem ck_L_109 : CallOk yX5_parts cX5_parts 1 (some .int) RX5 RL 109 0 := ⟨rfl, ⟨by decide, by decide, by decide +kernel⟩, by decide +kernel, by decide +kernel, by decide +kernel, by decide +kernel, by decide +kernel⟩
theorem ck_L_112 : CallOk yX6_parts cX6_parts 1 (some .int) RX6 RL 112 0 := ⟨rfl, ⟨by decide, by decide, by decide +kernel⟩, by decide +kernel, by decide +kernel, by decide +kernel, by decide +kernel, by decide +kernel⟩
set_option maxHeartbeats 2000000 in
theorem lc_parts (C : GX X cL_law 12 436 7 1084) (S : GS X N xs) (hN : N ≤ 2560) (hst : (Gl X).stackTraces = false) (A : ALL h) (hi : 0 ≤ i ∧ i + 5 ≤ (N : Int)) (hk : kc + 1 ≤ 1084) (kk : ∀ h2, ALL h2 → Wg X 1173 (L0 i) [] h2 (kc + 1)) : Wg X 677 (L0 i) [] h kc := by
  refine g_aload_n 3 C dL_law_677 rfl ?_
  refine g_calli (av := []) (rest := []) (r := 0) (ci := 5) (Cn := RX5) (T := TX5) (N := 5) C dL_law_678 (ct_parts h A.cs) ck_L_109 rfl rfl rfl (v1s []) (by decide) (by decide) (by decide) (Nat.le_of_succ_le hk) (fun E hE => absurd hE id) ?_
  intro r h1 f1 rh1 ir po
  cases fr0 f1
  obtain ⟨g1, g2⟩ := st_parts A po
  refine g_aload_n 2 C dL_law_681 rfl ?_
  refine g_calli (av := []) (rest := [vi r]) (r := 30) (ci := 6) (Cn := RX6) (T := TX6) (N := 24) C dL_law_682 (ct_mparts h g1) ck_L_112 rfl rfl rfl (v1s []) (by decide) (by decide) (Nat.le_of_ble_eq_true rfl) (Nat.le_of_succ_le hk) (fun E hE => absurd hE id) ?_
  intro b h2 f2 rh2 ib po2
  obtain ⟨s1, s2⟩ := g2 b h2 f2 po2
  exact g_icmp_eq (tgt := 1173) C dL_law_685 rfl s1.symm (Wg_widen (Nat.le_succ kc) (kk h2 s2))
theorem ck_L_113 : CallOk yX5_genus cX5_genus 2 (some .int) RX5 RL 113 0 := ⟨rfl, ⟨by decide, by decide, by decide +kernel⟩, by decide +kernel, by decide +kernel, by decide +kernel, by decide +kernel, by decide +kernel⟩
theorem ck_L_116 : CallOk yX6_genus cX6_genus 1 (some .int) RX6 RL 116 0 := ⟨rfl, ⟨by decide, by decide, by decide +kernel⟩, by decide +kernel, by decide +kernel, by decide +kernel, by decide +kernel, by decide +kernel⟩
set_option maxHeartbeats 2000000 in
theorem lc_genus (C : GX X cL_law 12 436 7 1084) (S : GS X N xs) (hN : N ≤ 2560) (hst : (Gl X).stackTraces = false) (A : ALL h) (hi : 0 ≤ i ∧ i + 5 ≤ (N : Int)) (hk : kc + 1 ≤ 1084) (kk : ∀ h2, ALL h2 → Wg X 1173 (L0 i) [] h2 (kc + 1)) : Wg X 690 (L0 i) [] h kc := by
  refine g_aload_n 3 C dL_law_690 rfl ?_
  refine g_calli (av := []) (rest := []) (r := 0) (ci := 5) (Cn := RX5) (T := TX5) (N := 5) C dL_law_691 (ct_genus h A.cs.gen) ck_L_113 rfl rfl rfl (v1s []) (by decide) (by decide) (by decide) (Nat.le_of_succ_le hk) (fun E hE => absurd hE id) ?_
  intro r h1 f1 rh1 ir po
  cases fr0 f1
  obtain ⟨g1, g2⟩ := st_genus A po
  refine g_aload_n 2 C dL_law_694 rfl ?_
  refine g_calli (av := []) (rest := [vi r]) (r := 30) (ci := 6) (Cn := RX6) (T := TX6) (N := 24) C dL_law_695 (ct_mgenus h g1) ck_L_116 rfl rfl rfl (v1s []) (by decide) (by decide) (Nat.le_of_ble_eq_true rfl) (Nat.le_of_succ_le hk) (fun E hE => absurd hE id) ?_
  intro b h2 f2 rh2 ib po2
  obtain ⟨s1, s2⟩ := g2 b h2 f2 po2
  exact g_icmp_eq (tgt := 1173) C dL_law_698 rfl s1.symm (Wg_widen (Nat.le_succ kc) (kk h2 s2))
theorem stk_colour : StatOk yL_colour cL_colour 3 [(0, 8, 11, 47)] 117 2 := ⟨⟨by decide, by decide, by decide +kernel⟩, by decide +kernel, by decide +kernel, by decide +kernel, by decide +kernel⟩
theorem ck_L_119 : CallOk yX6_colour cX6_colour 4 (some .int) RX6 RL 119 0 := ⟨rfl, ⟨by decide, by decide, by decide +kernel⟩, by decide +kernel, by decide +kernel, by decide +kernel, by decide +kernel, by decide +kernel⟩
set_option maxHeartbeats 2000000 in
theorem lc_colour (C : GX X cL_law 12 436 7 1084) (S : GS X N xs) (hN : N ≤ 2560) (hst : (Gl X).stackTraces = false) (A : ALL h) (hi : 0 ≤ i ∧ i + 5 ≤ (N : Int)) (hk : kc + 1 ≤ 1084) (kk : ∀ h2, ALL h2 → Wg X 1173 (L0 i) [] h2 (kc + 1)) : Wg X 703 (L0 i) [] h kc := by
  refine g_aload_n 3 C dL_law_703 rfl ?_
  refine g_aload_n 1 C dL_law_704 rfl ?_
  refine g_calls (mcY := 0) (tyY := .int) (av := [vr 0, vr 47]) (rest := []) C dL_law_705 (cl_colour hst h A.cs) stk_colour rfl (v1w []) (by decide) (by decide) (by decide) hk ?_
  intro k h1 f1 rh1 ik wp
  obtain ⟨g1, g2⟩ := ot_colour A wp
  refine g_istore (L' := (5, vi k) :: L0 i) C dL_law_708 (by decide) rfl ?_
  refine g_aload_n 3 C dL_law_710 rfl ?_
  refine g_calli (av := []) (rest := []) (r := 30) (ci := 6) (Cn := RX6) (T := TX6) (N := 24) C dL_law_711 (ct_mcolour h1 g1) ck_L_119 rfl rfl rfl (v1s []) (by decide) (by decide) (by decide) hk (fun E hE => absurd hE id) ?_
  intro b h2 f2 rh2 ib po
  obtain ⟨s1, s2, s3⟩ := g2 b h2 f2 po
  refine g_istore (L' := (6, vi b) :: (5, vi k) :: L0 i) C dL_law_714 (by decide) rfl ?_
  exact lw_tail C hk s1 (fun z => by rw [s2 z, f2 47 (by decide)]) dL_law_716 dL_law_717 dL_law_720 dL_law_722 dL_law_727 dL_law_729 dL_law_732 dL_law_733 dL_law_734 dL_law_735 dL_law_737 dL_law_738 dL_law_739 dL_law_744 rfl (kk h2 s3)
theorem stk_colourOf : StatOk yL_colourOf cL_colourOf 4 [(0, 9, 12, 19)] 120 3 := ⟨⟨by decide, by decide, by decide +kernel⟩, by decide +kernel, by decide +kernel, by decide +kernel, by decide +kernel⟩
theorem ck_L_122 : CallOk yX6_colourOf cX6_colourOf 2 (some .int) RX6 RL 122 1 := ⟨rfl, ⟨by decide, by decide, by decide +kernel⟩, by decide +kernel, by decide +kernel, by decide +kernel, by decide +kernel, by decide +kernel⟩
set_option maxHeartbeats 2000000 in
theorem lc_colourOf (C : GX X cL_law 12 436 7 1084) (S : GS X N xs) (hN : N ≤ 2560) (hst : (Gl X).stackTraces = false) (A : ALL h) (hi : 0 ≤ i ∧ i + 5 ≤ (N : Int)) (hk : kc + 1 ≤ 1084) (kk : ∀ h2, ALL h2 → Wg X 1173 (L0 i) [] h2 (kc + 1)) : Wg X 747 (L0 i) [] h kc := by
  refine g_aload_n 3 C dL_law_747 rfl ?_
  refine g_arg (j := 1) 4 0 C S hN hi (by decide) dL_law_748 dL_law_749 dL_law_751 dL_law_752 dL_law_753 rfl rfl ?_
  refine g_aload_n 1 C dL_law_754 rfl ?_
  refine g_calls (mcY := 0) (tyY := .int) (av := [vr 0, vi ((xs (i + 1).toNat).toInt), vr 47]) (rest := []) C dL_law_755 (cl_colourOf hst ((xs (i + 1).toNat).toInt) h A.cs) stk_colourOf rfl (v1w [(xs (i + 1).toNat).toInt]) (by decide) (by decide) (by decide) hk ?_
  intro k h1 f1 rh1 ik wp
  obtain ⟨g1, g2⟩ := ot_colourOf A wp
  refine g_istore (L' := (5, vi k) :: L0 i) C dL_law_758 (by decide) rfl ?_
  refine g_aload_n 3 C dL_law_760 rfl ?_
  refine g_arg (j := 1) 5 1 C S hN hi (by decide) dL_law_761 dL_law_762 dL_law_764 dL_law_765 dL_law_766 rfl rfl ?_
  refine g_calli (av := [vi ((xs (i + 1).toNat).toInt)]) (rest := []) (r := 30) (ci := 6) (Cn := RX6) (T := TX6) (N := 24) C dL_law_767 (ct_mcolourOf ((xs (i + 1).toNat).toInt) h1 g1) ck_L_122 rfl rfl rfl (v1s [(xs (i + 1).toNat).toInt]) (by decide) (by decide) (by decide) hk (fun E hE => absurd hE id) ?_
  intro b h2 f2 rh2 ib po
  obtain ⟨s1, s2, s3⟩ := g2 b h2 f2 po
  refine g_istore (L' := (6, vi b) :: (5, vi k) :: L0 i) C dL_law_770 (by decide) rfl ?_
  exact lw_tail C hk s1 (fun z => by rw [s2 z, f2 47 (by decide)]) dL_law_772 dL_law_773 dL_law_776 dL_law_778 dL_law_783 dL_law_785 dL_law_788 dL_law_789 dL_law_790 dL_law_791 dL_law_793 dL_law_794 dL_law_795 dL_law_800 rfl (kk h2 s3)
theorem ck_L_123 : CallOk yX5_exchanges cX5_exchanges 1 (some .int) RX5 RL 123 0 := ⟨rfl, ⟨by decide, by decide, by decide +kernel⟩, by decide +kernel, by decide +kernel, by decide +kernel, by decide +kernel, by decide +kernel⟩
theorem ck_L_126 : CallOk yX6_exchanges cX6_exchanges 1 (some .int) RX6 RL 126 0 := ⟨rfl, ⟨by decide, by decide, by decide +kernel⟩, by decide +kernel, by decide +kernel, by decide +kernel, by decide +kernel, by decide +kernel⟩
set_option maxHeartbeats 2000000 in
theorem lc_exchanges (C : GX X cL_law 12 436 7 1084) (S : GS X N xs) (hN : N ≤ 2560) (hst : (Gl X).stackTraces = false) (A : ALL h) (hi : 0 ≤ i ∧ i + 5 ≤ (N : Int)) (hk : kc + 1 ≤ 1084) (kk : ∀ h2, ALL h2 → Wg X 1173 (L0 i) [] h2 (kc + 1)) : Wg X 803 (L0 i) [] h kc := by
  refine g_aload_n 3 C dL_law_803 rfl ?_
  refine g_calli (av := []) (rest := []) (r := 0) (ci := 5) (Cn := RX5) (T := TX5) (N := 5) C dL_law_804 (ct_exchanges h) ck_L_123 rfl rfl rfl (v1s []) (by decide) (by decide) (by decide) (Nat.le_of_succ_le hk) (fun E hE => absurd hE id) ?_
  intro r h1 f1 rh1 ir po
  cases fr0 f1
  have g2 := st_exchanges A po
  refine g_aload_n 2 C dL_law_807 rfl ?_
  refine g_calli (av := []) (rest := [vi r]) (r := 30) (ci := 6) (Cn := RX6) (T := TX6) (N := 24) C dL_law_808 (ct_mexchanges h) ck_L_126 rfl rfl rfl (v1s []) (by decide) (by decide) (Nat.le_of_ble_eq_true rfl) (Nat.le_of_succ_le hk) (fun E hE => absurd hE id) ?_
  intro b h2 f2 rh2 ib po2
  obtain ⟨s1, s2⟩ := g2 b h2 f2 po2
  exact g_icmp_eq (tgt := 1173) C dL_law_811 rfl s1.symm (Wg_widen (Nat.le_succ kc) (kk h2 s2))
theorem stk_exchange : StatOk yL_exchange cL_exchange 5 [(0, 10, 13, 19), (0, 10, 17, 21)] 127 4 := ⟨⟨by decide, by decide, by decide +kernel⟩, by decide +kernel, by decide +kernel, by decide +kernel, by decide +kernel⟩
theorem ck_L_129 : CallOk yX6_exchange cX6_exchange 4 (some .int) RX6 RL 129 2 := ⟨rfl, ⟨by decide, by decide, by decide +kernel⟩, by decide +kernel, by decide +kernel, by decide +kernel, by decide +kernel, by decide +kernel⟩
set_option maxHeartbeats 2000000 in
theorem lc_exchange (C : GX X cL_law 12 436 7 1084) (S : GS X N xs) (hN : N ≤ 2560) (hst : (Gl X).stackTraces = false) (A : ALL h) (hi : 0 ≤ i ∧ i + 5 ≤ (N : Int)) (hk : kc + 1 ≤ 1084) (kk : ∀ h2, ALL h2 → Wg X 1173 (L0 i) [] h2 (kc + 1)) : Wg X 816 (L0 i) [] h kc := by
  refine g_aload_n 3 C dL_law_816 rfl ?_
  refine g_arg (j := 1) 4 0 C S hN hi (by decide) dL_law_817 dL_law_818 dL_law_820 dL_law_821 dL_law_822 rfl rfl ?_
  refine g_arg (j := 2) 4 0 C S hN hi (by decide) dL_law_823 dL_law_824 dL_law_826 dL_law_827 dL_law_828 rfl rfl ?_
  refine g_aload_n 1 C dL_law_829 rfl ?_
  refine g_calls (mcY := 0) (tyY := .int) (av := [vr 0, vi ((xs (i + 1).toNat).toInt), vi ((xs (i + 2).toNat).toInt), vr 47]) (rest := []) C dL_law_830 (cl_exchange hst ((xs (i + 1).toNat).toInt) ((xs (i + 2).toNat).toInt) h A.cs) stk_exchange rfl (v1w [(xs (i + 1).toNat).toInt, (xs (i + 2).toNat).toInt]) (by decide) (by decide) (by decide) hk ?_
  intro k h1 f1 rh1 ik wp
  obtain ⟨g1, g2⟩ := ot_exchange A wp
  refine g_istore (L' := (5, vi k) :: L0 i) C dL_law_833 (by decide) rfl ?_
  refine g_aload_n 3 C dL_law_835 rfl ?_
  refine g_arg (j := 1) 5 1 C S hN hi (by decide) dL_law_836 dL_law_837 dL_law_839 dL_law_840 dL_law_841 rfl rfl ?_
  refine g_arg (j := 2) 5 1 C S hN hi (by decide) dL_law_842 dL_law_843 dL_law_845 dL_law_846 dL_law_847 rfl rfl ?_
  refine g_calli (av := [vi ((xs (i + 1).toNat).toInt), vi ((xs (i + 2).toNat).toInt)]) (rest := []) (r := 30) (ci := 6) (Cn := RX6) (T := TX6) (N := 24) C dL_law_848 (ct_mexch ((xs (i + 1).toNat).toInt) ((xs (i + 2).toNat).toInt) h1 g1) ck_L_129 rfl rfl rfl (v1s [(xs (i + 1).toNat).toInt, (xs (i + 2).toNat).toInt]) (by decide) (by decide) (by decide) hk (fun E hE => absurd hE id) ?_
  intro b h2 f2 rh2 ib po
  obtain ⟨s1, s2, s3⟩ := g2 b h2 f2 po
  refine g_istore (L' := (6, vi b) :: (5, vi k) :: L0 i) C dL_law_851 (by decide) rfl ?_
  exact lw_tail C hk s1 (fun z => by rw [s2 z, f2 47 (by decide)]) dL_law_853 dL_law_854 dL_law_857 dL_law_859 dL_law_864 dL_law_866 dL_law_869 dL_law_870 dL_law_871 dL_law_872 dL_law_874 dL_law_875 dL_law_876 dL_law_881 rfl (kk h2 s3)
theorem ck_L_130 : CallOk yX5_clashes cX5_clashes 1 (some .int) RX5 RL 130 0 := ⟨rfl, ⟨by decide, by decide, by decide +kernel⟩, by decide +kernel, by decide +kernel, by decide +kernel, by decide +kernel, by decide +kernel⟩
theorem ck_L_133 : CallOk yX6_clashes cX6_clashes 3 (some .int) RX6 RL 133 0 := ⟨rfl, ⟨by decide, by decide, by decide +kernel⟩, by decide +kernel, by decide +kernel, by decide +kernel, by decide +kernel, by decide +kernel⟩
set_option maxHeartbeats 2000000 in
theorem lc_clashes (C : GX X cL_law 12 436 7 1084) (S : GS X N xs) (hN : N ≤ 2560) (hst : (Gl X).stackTraces = false) (A : ALL h) (hi : 0 ≤ i ∧ i + 5 ≤ (N : Int)) (hk : kc + 1 ≤ 1084) (kk : ∀ h2, ALL h2 → Wg X 1173 (L0 i) [] h2 (kc + 1)) : Wg X 884 (L0 i) [] h kc := by
  refine g_aload_n 3 C dL_law_884 rfl ?_
  refine g_calli (av := []) (rest := []) (r := 0) (ci := 5) (Cn := RX5) (T := TX5) (N := 5) C dL_law_885 (ct_clashes h A.cs) ck_L_130 rfl rfl rfl (v1s []) (by decide) (by decide) (by decide) (Nat.le_of_succ_le hk) (fun E hE => absurd hE id) ?_
  intro r h1 f1 rh1 ir po
  cases fr0 f1
  obtain ⟨g1, g2⟩ := st_clashes A po
  refine g_aload_n 2 C dL_law_888 rfl ?_
  refine g_calli (av := []) (rest := [vi r]) (r := 30) (ci := 6) (Cn := RX6) (T := TX6) (N := 24) C dL_law_889 (ct_mclashes h g1.1 g1.2) ck_L_133 rfl rfl rfl (v1s []) (by decide) (by decide) (Nat.le_of_ble_eq_true rfl) (Nat.le_of_succ_le hk) (fun E hE => absurd hE id) ?_
  intro b h2 f2 rh2 ib po2
  obtain ⟨s1, s2⟩ := g2 b h2 f2 po2
  exact g_icmp_eq (tgt := 1173) C dL_law_892 rfl s1.symm (Wg_widen (Nat.le_succ kc) (kk h2 s2))
theorem stk_above : StatOk yL_above cL_above 4 [(0, 9, 12, 19)] 134 3 := ⟨⟨by decide, by decide, by decide +kernel⟩, by decide +kernel, by decide +kernel, by decide +kernel, by decide +kernel⟩
theorem ck_L_136 : CallOk yX6_above cX6_above 2 (some .int) RX6 RL 136 1 := ⟨rfl, ⟨by decide, by decide, by decide +kernel⟩, by decide +kernel, by decide +kernel, by decide +kernel, by decide +kernel, by decide +kernel⟩
set_option maxHeartbeats 2000000 in
theorem lc_above (C : GX X cL_law 12 436 7 1084) (S : GS X N xs) (hN : N ≤ 2560) (hst : (Gl X).stackTraces = false) (A : ALL h) (hi : 0 ≤ i ∧ i + 5 ≤ (N : Int)) (hk : kc + 1 ≤ 1084) (kk : ∀ h2, ALL h2 → Wg X 1173 (L0 i) [] h2 (kc + 1)) : Wg X 897 (L0 i) [] h kc := by
  refine g_aload_n 3 C dL_law_897 rfl ?_
  refine g_arg (j := 1) 4 0 C S hN hi (by decide) dL_law_898 dL_law_899 dL_law_901 dL_law_902 dL_law_903 rfl rfl ?_
  refine g_aload_n 1 C dL_law_904 rfl ?_
  refine g_calls (mcY := 0) (tyY := .int) (av := [vr 0, vi ((xs (i + 1).toNat).toInt), vr 47]) (rest := []) C dL_law_905 (cl_above hst ((xs (i + 1).toNat).toInt) h A.cs) stk_above rfl (v1w [(xs (i + 1).toNat).toInt]) (by decide) (by decide) (by decide) hk ?_
  intro k h1 f1 rh1 ik wp
  obtain ⟨g1, g2⟩ := ot_above A wp
  refine g_istore (L' := (5, vi k) :: L0 i) C dL_law_908 (by decide) rfl ?_
  refine g_aload_n 3 C dL_law_910 rfl ?_
  refine g_arg (j := 1) 5 1 C S hN hi (by decide) dL_law_911 dL_law_912 dL_law_914 dL_law_915 dL_law_916 rfl rfl ?_
  refine g_calli (av := [vi ((xs (i + 1).toNat).toInt)]) (rest := []) (r := 30) (ci := 6) (Cn := RX6) (T := TX6) (N := 24) C dL_law_917 (ct_mabove ((xs (i + 1).toNat).toInt) h1 g1) ck_L_136 rfl rfl rfl (v1s [(xs (i + 1).toNat).toInt]) (by decide) (by decide) (by decide) hk (fun E hE => absurd hE id) ?_
  intro b h2 f2 rh2 ib po
  obtain ⟨s1, s2, s3⟩ := g2 b h2 f2 po
  refine g_istore (L' := (6, vi b) :: (5, vi k) :: L0 i) C dL_law_920 (by decide) rfl ?_
  exact lw_tail C hk s1 (fun z => by rw [s2 z, f2 47 (by decide)]) dL_law_922 dL_law_923 dL_law_926 dL_law_928 dL_law_933 dL_law_935 dL_law_938 dL_law_939 dL_law_940 dL_law_941 dL_law_943 dL_law_944 dL_law_945 dL_law_950 rfl (kk h2 s3)
theorem stk_cycle : StatOk yL_cycle cL_cycle 4 [(0, 9, 12, 19)] 137 3 := ⟨⟨by decide, by decide, by decide +kernel⟩, by decide +kernel, by decide +kernel, by decide +kernel, by decide +kernel⟩
theorem ck_L_139 : CallOk yX6_cycle cX6_cycle 2 (some .int) RX6 RL 139 1 := ⟨rfl, ⟨by decide, by decide, by decide +kernel⟩, by decide +kernel, by decide +kernel, by decide +kernel, by decide +kernel, by decide +kernel⟩
set_option maxHeartbeats 2000000 in
theorem lc_cycle (C : GX X cL_law 12 436 7 1084) (S : GS X N xs) (hN : N ≤ 2560) (hst : (Gl X).stackTraces = false) (A : ALL h) (hi : 0 ≤ i ∧ i + 5 ≤ (N : Int)) (hk : kc + 1 ≤ 1084) (kk : ∀ h2, ALL h2 → Wg X 1173 (L0 i) [] h2 (kc + 1)) : Wg X 953 (L0 i) [] h kc := by
  refine g_aload_n 3 C dL_law_953 rfl ?_
  refine g_arg (j := 1) 4 0 C S hN hi (by decide) dL_law_954 dL_law_955 dL_law_957 dL_law_958 dL_law_959 rfl rfl ?_
  refine g_aload_n 1 C dL_law_960 rfl ?_
  refine g_calls (mcY := 0) (tyY := .int) (av := [vr 0, vi ((xs (i + 1).toNat).toInt), vr 47]) (rest := []) C dL_law_961 (cl_cycle hst ((xs (i + 1).toNat).toInt) h A.cs) stk_cycle rfl (v1w [(xs (i + 1).toNat).toInt]) (by decide) (by decide) (by decide) hk ?_
  intro k h1 f1 rh1 ik wp
  obtain ⟨g1, g2⟩ := ot_cycle A wp
  refine g_istore (L' := (5, vi k) :: L0 i) C dL_law_964 (by decide) rfl ?_
  refine g_aload_n 3 C dL_law_966 rfl ?_
  refine g_arg (j := 1) 5 1 C S hN hi (by decide) dL_law_967 dL_law_968 dL_law_970 dL_law_971 dL_law_972 rfl rfl ?_
  refine g_calli (av := [vi ((xs (i + 1).toNat).toInt)]) (rest := []) (r := 30) (ci := 6) (Cn := RX6) (T := TX6) (N := 24) C dL_law_973 (ct_mcycle ((xs (i + 1).toNat).toInt) h1 g1) ck_L_139 rfl rfl rfl (v1s [(xs (i + 1).toNat).toInt]) (by decide) (by decide) (by decide) hk (fun E hE => absurd hE id) ?_
  intro b h2 f2 rh2 ib po
  obtain ⟨s1, s2, s3⟩ := g2 b h2 f2 po
  refine g_istore (L' := (6, vi b) :: (5, vi k) :: L0 i) C dL_law_976 (by decide) rfl ?_
  exact lw_tail C hk s1 (fun z => by rw [s2 z, f2 47 (by decide)]) dL_law_978 dL_law_979 dL_law_982 dL_law_984 dL_law_989 dL_law_991 dL_law_994 dL_law_995 dL_law_996 dL_law_997 dL_law_999 dL_law_1000 dL_law_1001 dL_law_1006 rfl (kk h2 s3)
theorem stk_side : StatOk yL_side cL_side 5 [(0, 10, 13, 19), (0, 10, 17, 47)] 140 4 := ⟨⟨by decide, by decide, by decide +kernel⟩, by decide +kernel, by decide +kernel, by decide +kernel, by decide +kernel⟩
theorem ck_L_142 : CallOk yX6_side cX6_side 4 (some .int) RX6 RL 142 2 := ⟨rfl, ⟨by decide, by decide, by decide +kernel⟩, by decide +kernel, by decide +kernel, by decide +kernel, by decide +kernel, by decide +kernel⟩
set_option maxHeartbeats 2000000 in
theorem lc_side (C : GX X cL_law 12 436 7 1084) (S : GS X N xs) (hN : N ≤ 2560) (hst : (Gl X).stackTraces = false) (A : ALL h) (hi : 0 ≤ i ∧ i + 5 ≤ (N : Int)) (hk : kc + 1 ≤ 1084) (kk : ∀ h2, ALL h2 → Wg X 1173 (L0 i) [] h2 (kc + 1)) : Wg X 1009 (L0 i) [] h kc := by
  refine g_aload_n 3 C dL_law_1009 rfl ?_
  refine g_arg (j := 1) 4 0 C S hN hi (by decide) dL_law_1010 dL_law_1011 dL_law_1013 dL_law_1014 dL_law_1015 rfl rfl ?_
  refine g_arg (j := 2) 4 0 C S hN hi (by decide) dL_law_1016 dL_law_1017 dL_law_1019 dL_law_1020 dL_law_1021 rfl rfl ?_
  refine g_bool C dL_law_1022 dL_law_1025 dL_law_1026 dL_law_1029 ?_
  refine g_aload_n 1 C dL_law_1030 rfl ?_
  refine g_calls (mcY := 0) (tyY := .int) (av := [vr 0, vi ((xs (i + 1).toNat).toInt), vi ((jb (xs (i + 2).toNat).toInt)), vr 47]) (rest := []) C dL_law_1031 (cl_side hst ((xs (i + 1).toNat).toInt) ((jb (xs (i + 2).toNat).toInt)) h A.cs) stk_side rfl (v1w [(xs (i + 1).toNat).toInt, (jb (xs (i + 2).toNat).toInt)]) (by decide) (by decide) (by decide) hk ?_
  intro k h1 f1 rh1 ik wp
  obtain ⟨g1, g2⟩ := ot_side A (jb_or _) wp
  refine g_istore (L' := (5, vi k) :: L0 i) C dL_law_1034 (by decide) rfl ?_
  refine g_aload_n 3 C dL_law_1036 rfl ?_
  refine g_arg (j := 1) 5 1 C S hN hi (by decide) dL_law_1037 dL_law_1038 dL_law_1040 dL_law_1041 dL_law_1042 rfl rfl ?_
  refine g_arg (j := 2) 5 1 C S hN hi (by decide) dL_law_1043 dL_law_1044 dL_law_1046 dL_law_1047 dL_law_1048 rfl rfl ?_
  refine g_bool C dL_law_1049 dL_law_1052 dL_law_1053 dL_law_1056 ?_
  refine g_calli (av := [vi ((xs (i + 1).toNat).toInt), vi ((jb (xs (i + 2).toNat).toInt))]) (rest := []) (r := 30) (ci := 6) (Cn := RX6) (T := TX6) (N := 24) C dL_law_1057 (ct_mside ((xs (i + 1).toNat).toInt) ((jb (xs (i + 2).toNat).toInt)) h1 g1) ck_L_142 rfl rfl rfl (v1s [(xs (i + 1).toNat).toInt, (jb (xs (i + 2).toNat).toInt)]) (by decide) (by decide) (by decide) hk (fun E hE => absurd hE id) ?_
  intro b h2 f2 rh2 ib po
  obtain ⟨s1, s2, s3⟩ := g2 b h2 f2 po
  refine g_istore (L' := (6, vi b) :: (5, vi k) :: L0 i) C dL_law_1060 (by decide) rfl ?_
  exact lw_tail C hk s1 (fun z => by rw [s2 z, f2 47 (by decide)]) dL_law_1062 dL_law_1063 dL_law_1066 dL_law_1068 dL_law_1073 dL_law_1075 dL_law_1078 dL_law_1079 dL_law_1080 dL_law_1081 dL_law_1083 dL_law_1084 dL_law_1085 dL_law_1090 rfl (kk h2 s3)
theorem stk_best : StatOk yL_best cL_best 3 [(0, 8, 11, 47)] 143 2 := ⟨⟨by decide, by decide, by decide +kernel⟩, by decide +kernel, by decide +kernel, by decide +kernel, by decide +kernel⟩
theorem ck_L_145 : CallOk yX6_best cX6_best 9 (some .int) RX6 RL 145 0 := ⟨rfl, ⟨by decide, by decide, by decide +kernel⟩, by decide +kernel, by decide +kernel, by decide +kernel, by decide +kernel, by decide +kernel⟩
set_option maxHeartbeats 2000000 in
theorem lc_best (C : GX X cL_law 12 436 7 1084) (S : GS X N xs) (hN : N ≤ 2560) (hst : (Gl X).stackTraces = false) (A : ALL h) (hi : 0 ≤ i ∧ i + 5 ≤ (N : Int)) (hk : kc + 1 ≤ 1084) (kk : ∀ h2, ALL h2 → Wg X 1173 (L0 i) [] h2 (kc + 1)) : Wg X 1093 (L0 i) [] h kc := by
  refine g_aload_n 3 C dL_law_1093 rfl ?_
  refine g_aload_n 1 C dL_law_1094 rfl ?_
  refine g_calls (mcY := 0) (tyY := .int) (av := [vr 0, vr 47]) (rest := []) C dL_law_1095 (cl_best hst h A.cs) stk_best rfl (v1w []) (by decide) (by decide) (by decide) hk ?_
  intro k h1 f1 rh1 ik wp
  obtain ⟨g1, g2⟩ := ot_best A wp
  refine g_istore (L' := (5, vi k) :: L0 i) C dL_law_1098 (by decide) rfl ?_
  refine g_aload_n 3 C dL_law_1100 rfl ?_
  refine g_calli (av := []) (rest := []) (r := 30) (ci := 6) (Cn := RX6) (T := TX6) (N := 24) C dL_law_1101 (ct_mbest h1 g1) ck_L_145 rfl rfl rfl (v1s []) (by decide) (by decide) (by decide) hk (fun E hE => absurd hE id) ?_
  intro b h2 f2 rh2 ib po
  obtain ⟨s1, s2, s3⟩ := g2 b h2 f2 po
  refine g_istore (L' := (6, vi b) :: (5, vi k) :: L0 i) C dL_law_1104 (by decide) rfl ?_
  exact lw_tail C hk s1 (fun z => by rw [s2 z, f2 47 (by decide)]) dL_law_1106 dL_law_1107 dL_law_1110 dL_law_1112 dL_law_1117 dL_law_1119 dL_law_1122 dL_law_1123 dL_law_1124 dL_law_1125 dL_law_1127 dL_law_1128 dL_law_1129 dL_law_1134 rfl (kk h2 s3)
theorem ck_L_146 : CallOk yX5_told cX5_told 2 (some .int) RX5 RL 146 1 := ⟨rfl, ⟨by decide, by decide, by decide +kernel⟩, by decide +kernel, by decide +kernel, by decide +kernel, by decide +kernel, by decide +kernel⟩
theorem ck_L_149 : CallOk yX6_told cX6_told 2 (some .int) RX6 RL 149 1 := ⟨rfl, ⟨by decide, by decide, by decide +kernel⟩, by decide +kernel, by decide +kernel, by decide +kernel, by decide +kernel, by decide +kernel⟩
set_option maxHeartbeats 2000000 in
theorem lc_told (C : GX X cL_law 12 436 7 1084) (S : GS X N xs) (hN : N ≤ 2560) (hst : (Gl X).stackTraces = false) (A : ALL h) (hi : 0 ≤ i ∧ i + 5 ≤ (N : Int)) (hk : kc + 1 ≤ 1084) (kk : ∀ h2, ALL h2 → Wg X 1173 (L0 i) [] h2 (kc + 1)) : Wg X 1137 (L0 i) [] h kc := by
  refine g_aload_n 3 C dL_law_1137 rfl ?_
  refine g_arg (j := 1) 4 0 C S hN hi (by decide) dL_law_1138 dL_law_1139 dL_law_1141 dL_law_1142 dL_law_1143 rfl rfl ?_
  refine g_calli (av := [vi ((xs (i + 1).toNat).toInt)]) (rest := []) (r := 0) (ci := 5) (Cn := RX5) (T := TX5) (N := 5) C dL_law_1144 (ct_told ((xs (i + 1).toNat).toInt) h A.cs) ck_L_146 rfl rfl rfl (v1s [(xs (i + 1).toNat).toInt]) (by decide) (by decide) (by decide) (Nat.le_of_succ_le hk) (fun E hE => absurd hE id) ?_
  intro r h1 f1 rh1 ir po
  cases fr0 f1
  obtain ⟨g1, g2⟩ := st_told A po
  refine g_aload_n 2 C dL_law_1147 rfl ?_
  refine g_arg (j := 1) 4 0 C S hN hi (by decide) dL_law_1148 dL_law_1149 dL_law_1151 dL_law_1152 dL_law_1153 rfl rfl ?_
  refine g_calli (av := [vi ((xs (i + 1).toNat).toInt)]) (rest := [vi r]) (r := 30) (ci := 6) (Cn := RX6) (T := TX6) (N := 24) C dL_law_1154 (ct_mtold ((xs (i + 1).toNat).toInt) h g1) ck_L_149 rfl rfl rfl (v1s [(xs (i + 1).toNat).toInt]) (by decide) (by decide) (Nat.le_of_ble_eq_true rfl) (Nat.le_of_succ_le hk) (fun E hE => absurd hE id) ?_
  intro b h2 f2 rh2 ib po2
  obtain ⟨s1, s2⟩ := g2 b h2 f2 po2
  exact g_icmp_eq (tgt := 1173) C dL_law_1157 rfl s1.symm (Wg_widen (Nat.le_succ kc) (kk h2 s2))
theorem ck_L_150 : CallOk yX5_clear cX5_clear 1 none RX5 RL 150 0 := ⟨rfl, ⟨by decide, by decide, by decide +kernel⟩, by decide +kernel, by decide +kernel, by decide +kernel, by decide +kernel, by decide +kernel⟩
theorem ck_L_153 : CallOk yX6_clear cX6_clear 1 none RX6 RL 153 0 := ⟨rfl, ⟨by decide, by decide, by decide +kernel⟩, by decide +kernel, by decide +kernel, by decide +kernel, by decide +kernel, by decide +kernel⟩
set_option maxHeartbeats 2000000 in
theorem lc_clear (C : GX X cL_law 12 436 7 1084) (S : GS X N xs) (hN : N ≤ 2560) (hst : (Gl X).stackTraces = false) (A : ALL h) (hi : 0 ≤ i ∧ i + 5 ≤ (N : Int)) (hk : kc + 1 ≤ 1084) (kk : ∀ h2, ALL h2 → Wg X 1173 (L0 i) [] h2 (kc + 1)) : Wg X 1162 (L0 i) [] h kc := by
  refine g_aload_n 3 C dL_law_1162 rfl ?_
  refine g_callv (av := []) (rest := []) (r := 0) (ci := 5) (Cn := RX5) (T := TX5) (N := 5) C dL_law_1163 (ct_clear h A.cs) ck_L_150 rfl rfl rfl (v1s []) (by decide) (by decide) (by decide) (Nat.le_of_succ_le hk) (fun E hE => absurd hE id) ?_
  intro h1 f1 rh1 po
  refine g_aload_n 2 C dL_law_1166 rfl ?_
  refine g_callv (av := []) (rest := []) (r := 30) (ci := 6) (Cn := RX6) (T := TX6) (N := 24) C dL_law_1167 (ct_mclear h1) ck_L_153 rfl rfl rfl (v1s []) (by decide) (by decide) (by decide) (Nat.le_of_succ_le hk) (fun E hE => absurd hE id) ?_
  intro h2 f2 rh2 po2
  exact g_goto (tgt := 1173) C dL_law_1170 rfl (Wg_widen (Nat.le_succ kc) (kk h2 (st_clear f1 po h2 f2 po2)))
set_option maxHeartbeats 2000000 in
theorem lw_switch {x : Int} (C : GX X cL_law 12 436 7 1084) (S : GS X N xs) (hN : N ≤ 2560) (hst : (Gl X).stackTraces = false) (A : ALL h) (hi : 0 ≤ i ∧ i + 5 ≤ (N : Int)) (hk : kc + 1 ≤ 1084) (kk : ∀ h2, ALL h2 → Wg X 1173 (L0 i) [] h2 (kc + 1)) : Wg X 39 (L0 i) [vi x] h kc := by
  refine g_tsw (tgd := 1173) C dL_law_39 rfl (Wg_widen (Nat.le_succ kc) (kk h A)) (fun j off hj ho => ?_) (fun j hj => ⟨_, Array.getElem?_eq_getElem (show j < 22 by omega)⟩)
  have hj2 : j < 22 := (Array.getElem?_eq_some_iff.mp ho).1
  rcases (show j = 0 ∨ j = 1 ∨ j = 2 ∨ j = 3 ∨ j = 4 ∨ j = 5 ∨ j = 6 ∨ j = 7 ∨ j = 8 ∨ j = 9 ∨ j = 10 ∨ j = 11 ∨ j = 12 ∨ j = 13 ∨ j = 14 ∨ j = 15 ∨ j = 16 ∨ j = 17 ∨ j = 18 ∨ j = 19 ∨ j = 20 ∨ j = 21 by omega) with rfl | rfl | rfl | rfl | rfl | rfl | rfl | rfl | rfl | rfl | rfl | rfl | rfl | rfl | rfl | rfl | rfl | rfl | rfl | rfl | rfl | rfl
  · cases Option.some.inj ho
    exact ⟨140, rfl, lc_vertex C S hN hst A hi hk kk⟩
  · cases Option.some.inj ho
    exact ⟨184, rfl, lc_edge C S hN hst A hi hk kk⟩
  · cases Option.some.inj ho
    exact ⟨276, rfl, lc_remove C S hN hst A hi hk kk⟩
  · cases Option.some.inj ho
    exact ⟨332, rfl, lc_degree C S hN hst A hi hk kk⟩
  · cases Option.some.inj ho
    exact ⟨388, rfl, lc_round C S hN hst A hi hk kk⟩
  · cases Option.some.inj ho
    exact ⟨456, rfl, lc_end C S hN hst A hi hk kk⟩
  · cases Option.some.inj ho
    exact ⟨540, rfl, lc_faces C S hN hst A hi hk kk⟩
  · cases Option.some.inj ho
    exact ⟨553, rfl, lc_sides C S hN hst A hi hk kk⟩
  · cases Option.some.inj ho
    exact ⟨609, rfl, lc_from C S hN hst A hi hk kk⟩
  · cases Option.some.inj ho
    exact ⟨677, rfl, lc_parts C S hN hst A hi hk kk⟩
  · cases Option.some.inj ho
    exact ⟨690, rfl, lc_genus C S hN hst A hi hk kk⟩
  · cases Option.some.inj ho
    exact ⟨703, rfl, lc_colour C S hN hst A hi hk kk⟩
  · cases Option.some.inj ho
    exact ⟨747, rfl, lc_colourOf C S hN hst A hi hk kk⟩
  · cases Option.some.inj ho
    exact ⟨803, rfl, lc_exchanges C S hN hst A hi hk kk⟩
  · cases Option.some.inj ho
    exact ⟨816, rfl, lc_exchange C S hN hst A hi hk kk⟩
  · cases Option.some.inj ho
    exact ⟨884, rfl, lc_clashes C S hN hst A hi hk kk⟩
  · cases Option.some.inj ho
    exact ⟨897, rfl, lc_above C S hN hst A hi hk kk⟩
  · cases Option.some.inj ho
    exact ⟨953, rfl, lc_cycle C S hN hst A hi hk kk⟩
  · cases Option.some.inj ho
    exact ⟨1009, rfl, lc_side C S hN hst A hi hk kk⟩
  · cases Option.some.inj ho
    exact ⟨1093, rfl, lc_best C S hN hst A hi hk kk⟩
  · cases Option.some.inj ho
    exact ⟨1137, rfl, lc_told C S hN hst A hi hk kk⟩
  · cases Option.some.inj ho
    exact ⟨1162, rfl, lc_clear C S hN hst A hi hk kk⟩
theorem lw_loop (C : GX X cL_law 12 436 7 1084) (S : GS X N xs) (hN : N ≤ 2560) (hst : (Gl X).stackTraces = false) (fin : ∀ (i : Int) (h : Hp) (kc : Nat), kc ≤ 560 → Wg X 1179 (L0 i) [] h kc) :
    ∀ (n : Nat) (i : Int) (h : Hp) (kc : Nat), 0 ≤ i → i ≤ 2560 → ((N : Int) - i).toNat ≤ n → 5 * (kc : Int) ≤ 240 + i → ALL h → Wg X 23 (L0 i) [] h kc := by
  intro n
  induction n with
  | zero =>
    intro i h kc h0 h1 hn hk A
    refine g_iload 0 C dL_law_23 rfl ?_
    refine g_aload_n 4 C dL_law_25 rfl ?_
    refine g_slen C S hN dL_law_26 ?_
    refine g_iconst C dL_law_27 ⟨by omega, by omega⟩ ?_
    refine g_isub C dL_law_28 ⟨by omega, by omega⟩ ?_
    refine g_icmp_gt (tgt := 1179) C dL_law_29 rfl (fun _ => fin i h kc (by omega)) (fun z => ?_)
    exact absurd (show (N : Int) - 5 < i by omega) z
  | succ n ih =>
    intro i h kc h0 h1 hn hk A
    refine g_iload 0 C dL_law_23 rfl ?_
    refine g_aload_n 4 C dL_law_25 rfl ?_
    refine g_slen C S hN dL_law_26 ?_
    refine g_iconst C dL_law_27 ⟨by omega, by omega⟩ ?_
    refine g_isub C dL_law_28 ⟨by omega, by omega⟩ ?_
    refine g_icmp_gt (tgt := 1179) C dL_law_29 rfl (fun _ => fin i h kc (by omega)) (fun z => ?_)
    refine g_aload_n 4 C dL_law_32 rfl ?_
    refine g_iload 0 C dL_law_33 rfl ?_
    refine g_sld C S dL_law_35 ⟨h0, by omega⟩ ?_
    refine g_bipush C dL_law_36 ⟨by decide, by decide⟩ rfl ?_
    refine g_iand C dL_law_38 ?_
    refine lw_switch C S hN hst A ⟨h0, by omega⟩ (by omega) (fun h2 A2 => ?_)
    refine g_iinc (L' := L0 (i + 5)) 0 C dL_law_1173 rfl (by decide) ⟨by omega, by omega⟩ rfl ?_
    refine g_goto (tgt := 23) C dL_law_1176 rfl ?_
    exact ih (i + 5) h2 (kc + 1) (by omega) (by omega) (by omega) (by omega) A2
end LawRows

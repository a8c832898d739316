def wpX9_make_L155 (Q : Int32 → Sg → Prop) : Nat → Int32 → Int32 → Int32 → Int32 → Int32 → Sg → Prop
  | 0, _, _, _, _, _, _ => False
  | n + 1, x3, x4, x5, x6, x7, σ => ((x6 ≤ x7 → wpX9_fitting x5 0 x6 2 x3 σ (fun r25 σ25 => (vp_in x5 96 ∧ ∀ σ26 : Sg, σ26 = up2 σ25 25 x5.toNatClampNeg r25 → (vp_in x5 96 ∧ ∀ σ27 : Sg, σ27 = up2 σ26 26 x5.toNatClampNeg 0 → (vp_in x5 96 ∧ ∀ σ28 : Sg, σ28 = up2 σ27 29 x5.toNatClampNeg 0 → (vp_in x5 96 ∧ wpX9_cutWaiting x4 0 (σ28 25 x5.toNatClampNeg) σ28 (fun σ30 => (vp_in x4 6 ∧ (vp_in x4 6 ∧ ∀ σ32 : Sg, σ32 = up2 σ30 4 x4.toNatClampNeg ((σ30 4 x4.toNatClampNeg) + 1) → (vp_in x4 6 ∧ (vp_in x5 96 ∧ wpX9_data x4 ((σ32 4 x4.toNatClampNeg) - 1) 0 (σ32 25 x5.toNatClampNeg) 0 σ32 (fun r35 σ35 => Q r35 σ35)))))))))))) ∧ (¬ (x6 ≤ x7) → ∀ x8_36 : Int32, x8_36 = (4400 * x4) + x7 → (vp_in x8_36 26400 ∧ (vp_in ((240 * x5) + x7) 23040 ∧ ∀ σ38 : Sg, σ38 = up2 σ 27 (((240 * x5) + x7).toNatClampNeg) (σ 20 x8_36.toNatClampNeg) → (vp_in x8_36 26400 ∧ (vp_in ((240 * x5) + x7) 23040 ∧ ∀ σ40 : Sg, σ40 = up2 σ38 28 (((240 * x5) + x7).toNatClampNeg) (σ38 21 x8_36.toNatClampNeg) → (vp_in x8_36 26400 ∧ (vz (σ40 23 x8_36.toNatClampNeg) ∧ (vp_in ((240 * x5) + x7) 23040 ∧ ∀ σ43 : Sg, σ43 = up2 σ40 30 (((240 * x5) + x7).toNatClampNeg) (σ40 23 x8_36.toNatClampNeg) → (vp_in x8_36 26400 ∧ (vz (σ43 24 x8_36.toNatClampNeg) ∧ (vp_in ((240 * x5) + x7) 23040 ∧ ∀ σ46 : Sg, σ46 = up2 σ43 31 (((240 * x5) + x7).toNatClampNeg) (σ43 24 x8_36.toNatClampNeg) → (vp_in ((240 * x5) + x7) 23040 ∧ ∀ σ47 : Sg, σ47 = up2 σ46 32 (((240 * x5) + x7).toNatClampNeg) 0 → ∀ x7_48 : Int32, x7_48 = x7 + 1 → (wpX9_make_L155 Q n) x3 x4 x5 x6 x7_48 σ47)))))))))))))
def wpX9_make_L150 (Q : Int32 → Sg → Prop) (x3 : Int32) (x4 : Int32) (x5 : Int32) (z0 : Int32) (σ : Sg) : Prop := ∃ nn, wpX9_make_L155 Q nn x3 x4 x5 z0 0 σ
def wpX9_make_L40 (Q : Int32 → Sg → Prop) (x3 : Int32) (x4 : Int32) (σ : Sg) : Prop := (vp_in x4 6 ∧ (((σ 13 x4.toNatClampNeg) = 0 → wpX9_allAgain x4 σ (fun r10 σ10 => ((r10 ≤ 0 → (vp_in x4 6 ∧ (((σ10 22 x4.toNatClampNeg) = 0 → Q 0 σ10) ∧ (¬ ((σ10 22 x4.toNatClampNeg) = 0) → (vp_in x4 6 ∧ (vp_in x4 6 ∧ ((16 ≤ ((σ10 4 x4.toNatClampNeg) - (σ10 3 x4.toNatClampNeg)) → Q 0 σ10) ∧ (¬ (16 ≤ ((σ10 4 x4.toNatClampNeg) - (σ10 3 x4.toNatClampNeg))) → ((3 ≤ x3 → (vp_in x4 6 ∧ ∀ x5_19 : Int32, x5_19 = (16 * x4) + ((σ10 4 x4.toNatClampNeg) &&& 15) → (vp_in x4 6 ∧ ((240 ≤ (σ10 22 x4.toNatClampNeg) → wpX9_make_L150 Q x3 x4 x5_19 240 σ10) ∧ (¬ (240 ≤ (σ10 22 x4.toNatClampNeg)) → (vp_in x4 6 ∧ wpX9_make_L150 Q x3 x4 x5_19 (σ10 22 x4.toNatClampNeg) σ10)))))) ∧ (¬ (3 ≤ x3) → Q 0 σ10)))))))))) ∧ (¬ (r10 ≤ 0) → wpX9_makeAgain x4 x3 σ10 (fun r23 σ23 => Q r23 σ23))))) ∧ (¬ ((σ 13 x4.toNatClampNeg) = 0) → Q 0 σ)))
def wpX9_make (x1 : Int32) (x2 : Int32) (x3 : Int32) (σ : Sg) (Q : Int32 → Sg → Prop) : Prop := wpX9_at x1 x2 σ (fun r1 σ1 => (vp_in r1 6 ∧ (((σ1 43 r1.toNatClampNeg) = 0 → wpX9_make_L40 Q x3 r1 σ1) ∧ (¬ ((σ1 43 r1.toNatClampNeg) = 0) → (vp_in r1 6 ∧ ((¬ (σ1 38 r1.toNatClampNeg) = 0 → wpX9_make_L40 Q x3 r1 σ1) ∧ ((σ1 38 r1.toNatClampNeg) = 0 → ((x3 < 2 → wpX9_make_L40 Q x3 r1 σ1) ∧ (¬ (x3 < 2) → wpX9_makeStatus r1 x3 σ1 (fun r7 σ7 => Q r7 σ7))))))))))
set_option maxHeartbeats 8000000 in
set_option maxRecDepth 100000 in
theorem tX9_make {l : Launch} {G : GG} {x1 : Int32} {x2 : Int32} {x3 : Int32} {σ : Sg} {Q : Int32 → Sg → Prop} (h0 : isModel G) (h : wpX9_make x1 x2 x3 σ Q) : Ki l G yX9_make (wB yX9_make prog_11_method_21_code 9 (Option.some FieldType.int)) ({ frames := 4, cells := 0, slots := 0, locals := 108 }) [.ref (ga G 0), .int x1, .int x2, .int x3] σ Q := by
  refine K_of (cc := cX9_make) (maxL := 9) (ret := (some .int)) (by decide) rfl (Nat.le_of_ble_eq_true rfl) ?_
  intro p e s m args below meth c ls B hH hl
  obtain ⟨hx, hb, hr, hts, hown, hlk, hml, hK, hX⟩ := B
  replace hl : lv_has ls 9 [(0, .ref (ga G 0)), (1, .int x1), (2, .int x2), (3, .int x3)] := hl
  have hB : ∀ w ∈ BIG, w.before args s = true := fun w h9 => hts w (List.mem_cons_of_mem _ h9)
  clear hts
  have k16 := hB _ bw4_122
  have k19 := hB _ bw4_123
  have k47 := hB _ bw4_132
  have k68 := hB _ bw4_139
  have k71 := hB _ bw4_140
  have k74 := hB _ bw4_141
  have k77 := hB _ bw4_142
  have k80 := hB _ bw4_143
  have k83 := hB _ bw4_144
  have k86 := hB _ bw4_145
  have k89 := hB _ bw4_146
  have k92 := hB _ bw4_147
  have k95 := hB _ bw4_148
  have k98 := hB _ bw4_149
  have k101 := hB _ bw4_150
  have k104 := hB _ bw4_151
  have k122 := hB _ bw4_157
  have k137 := hB _ bw4_162
  have L155 : ∀ (n155 : Nat) (x3 : Int32) (x4 : Int32) (x5 : Int32) (x6 : Int32) (x7 : Int32) (σ : Sg) (H : Heap) (locs : List Loc) (ls : Array Slot), Hx G (aA G s.heap.size) s σ H locs → lv_has ls 9 [(0, .ref (ga G 0)), (3, .int x3), (4, .int x4), (5, .int x5), (6, .int x6), (7, .int x7)] → wpX9_make_L155 Q n155 x3 x4 x5 x6 x7 σ → W p l e ({ frames := 4, cells := 0, slots := 0, locals := 108 }) s m args below meth c H locs 0 0 (Zi G Q below args s) (F0 m 155 ls []) := by
    intro n155
    induction n155 with
    | zero =>
      intro x3 x4 x5 x6 x7 σ H locs ls hH hl h
      exact False.elim h
    | succ n155 ih155 =>
      intro x3 x4 x5 x6 x7 σ H locs ls hH hl h
      unfold wpX9_make_L155 at h
      refine lv_iload hx hb dX9_make_155 (lv_at hl 5 rfl) ?_
      refine lv_iload hx hb dX9_make_157 (lv_at hl 4 rfl) ?_
      refine lv_icmp_ge (tgt := 278) hx hb dX9_make_159 (by decide) (fun q24 => ?_) (fun q24 => ?_)
      · replace h := h.1 q24
        refine lv_aload_n hx hb dX9_make_278 rfl (lv_at hl 0 rfl) ?_
        refine g_getr hx hb hB inB9 hown hK hH (c0 := 0) h0.1 rfl 34 (by decide) k83 rfl (c1 := 25) rfl dX9_make_279 ?_
        refine lv_iload hx hb dX9_make_282 (lv_at hl 3 rfl) ?_
        refine lv_aload_n hx hb dX9_make_284 rfl (lv_at hl 0 rfl) ?_
        refine lv_iload hx hb dX9_make_285 (lv_at hl 3 rfl) ?_
        refine lv_iconst (v := 0) hx hb dX9_make_287 (by decide) ?_
        refine lv_iload hx hb dX9_make_288 (lv_at hl 4 rfl) ?_
        refine lv_iconst (v := 2) hx hb dX9_make_290 (by decide) ?_
        refine lv_iload_n hx hb dX9_make_291 rfl (lv_at hl 1 rfl) ?_
        refine g_callVi (As := [.int x5, .int 0, .int x6, .int 2, .int x3]) (rest := [.int x5, .ref (ga G 25)]) ⟨hx, hb, hml, hown, hB⟩ hK hX aA_hA hH (c0 := 0) (tX9_fitting h0 h) (cwV 5 hB gVX9_295 rfl rfl rfl (by decide +kernel) ⟨Nat.le_of_ble_eq_true rfl, Nat.le_of_ble_eq_true rfl⟩) h0.1 rfl rfl hl.1 rfl (lv_room (Nat.le_of_ble_eq_true rfl)) ⟨Nat.zero_le _, Nat.zero_le _⟩ dX9_make_292 (fun r25 σ25 H locs h hH => ?_)
        obtain ⟨hi26, h⟩ := h
        refine g_iast hx hb hK hH (c0 := 25) (i := x5) (mA25 h0) hi26 dX9_make_295 (fun σ26 eσ26 H locs hH => ?_)
        replace h := h σ26 eσ26
        refine lv_aload_n hx hb dX9_make_296 rfl (lv_at hl 0 rfl) ?_
        refine g_getr hx hb hB inB9 hown hK hH (c0 := 0) h0.1 rfl 35 (by decide) k86 rfl (c1 := 26) rfl dX9_make_297 ?_
        refine lv_iload hx hb dX9_make_300 (lv_at hl 3 rfl) ?_
        refine lv_iconst (v := 0) hx hb dX9_make_302 (by decide) ?_
        obtain ⟨hi27, h⟩ := h
        refine g_iast hx hb hK hH (c0 := 26) (i := x5) (mA26 h0) hi27 dX9_make_303 (fun σ27 eσ27 H locs hH => ?_)
        replace h := h σ27 eσ27
        refine lv_aload_n hx hb dX9_make_304 rfl (lv_at hl 0 rfl) ?_
        refine g_getr hx hb hB inB9 hown hK hH (c0 := 0) h0.1 rfl 38 (by decide) k95 rfl (c1 := 29) rfl dX9_make_305 ?_
        refine lv_iload hx hb dX9_make_308 (lv_at hl 3 rfl) ?_
        refine lv_iconst (v := 0) hx hb dX9_make_310 (by decide) ?_
        obtain ⟨hi28, h⟩ := h
        refine g_zast hx hb hK hH (c0 := 29) (i := x5) (mA29 h0) vz0 hi28 dX9_make_311 (fun σ28 eσ28 H locs hH => ?_)
        replace h := h σ28 eσ28
        refine lv_aload_n hx hb dX9_make_312 rfl (lv_at hl 0 rfl) ?_
        refine lv_iload hx hb dX9_make_313 (lv_at hl 2 rfl) ?_
        refine lv_iconst (v := 0) hx hb dX9_make_315 (by decide) ?_
        refine lv_aload_n hx hb dX9_make_316 rfl (lv_at hl 0 rfl) ?_
        refine g_getr hx hb hB inB9 hown hK hH (c0 := 0) h0.1 rfl 34 (by decide) k83 rfl (c1 := 25) rfl dX9_make_317 ?_
        refine lv_iload hx hb dX9_make_320 (lv_at hl 3 rfl) ?_
        obtain ⟨hi29, h⟩ := h
        refine g_iald hx hb hK hH (c0 := 25) (mA25 h0) hi29 dX9_make_322 ?_
        refine g_callVv (As := [.int x4, .int 0, .int (σ28 25 x5.toNatClampNeg)]) (rest := []) ⟨hx, hb, hml, hown, hB⟩ hK hX aA_hA hH (c0 := 0) (tX9_cutWaiting h0 h) (cwV 3 hB gVX9_280 rfl rfl rfl (by decide +kernel) ⟨Nat.le_of_ble_eq_true rfl, Nat.le_of_ble_eq_true rfl⟩) h0.1 rfl rfl hl.1 rfl (lv_room (Nat.le_of_ble_eq_true rfl)) ⟨Nat.zero_le _, Nat.zero_le _⟩ dX9_make_323 (fun σ30 H locs h hH => ?_)
        refine lv_aload_n hx hb dX9_make_326 rfl (lv_at hl 0 rfl) ?_
        refine g_getr hx hb hB inB9 hown hK hH (c0 := 0) h0.1 rfl 13 (by decide) k19 rfl (c1 := 4) rfl dX9_make_327 ?_
        refine lv_iload hx hb dX9_make_330 (lv_at hl 2 rfl) ?_
        refine lv_dup2_11 hx hb dX9_make_332 rfl rfl ?_
        obtain ⟨hi31, h⟩ := h
        refine g_iald hx hb hK hH (c0 := 4) (mA4 h0) hi31 dX9_make_333 ?_
        refine lv_iconst (v := 1) hx hb dX9_make_334 (by decide) ?_
        refine lv_iadd hx hb dX9_make_335 ?_
        obtain ⟨hi32, h⟩ := h
        refine g_iast hx hb hK hH (c0 := 4) (i := x4) (mA4 h0) hi32 dX9_make_336 (fun σ32 eσ32 H locs hH => ?_)
        replace h := h σ32 eσ32
        refine lv_aload_n hx hb dX9_make_337 rfl (lv_at hl 0 rfl) ?_
        refine lv_iload hx hb dX9_make_338 (lv_at hl 2 rfl) ?_
        refine lv_aload_n hx hb dX9_make_340 rfl (lv_at hl 0 rfl) ?_
        refine g_getr hx hb hB inB9 hown hK hH (c0 := 0) h0.1 rfl 13 (by decide) k19 rfl (c1 := 4) rfl dX9_make_341 ?_
        refine lv_iload hx hb dX9_make_344 (lv_at hl 2 rfl) ?_
        obtain ⟨hi33, h⟩ := h
        refine g_iald hx hb hK hH (c0 := 4) (mA4 h0) hi33 dX9_make_346 ?_
        refine lv_iconst (v := 1) hx hb dX9_make_347 (by decide) ?_
        refine lv_isub hx hb dX9_make_348 ?_
        refine lv_iconst (v := 0) hx hb dX9_make_349 (by decide) ?_
        refine lv_aload_n hx hb dX9_make_350 rfl (lv_at hl 0 rfl) ?_
        refine g_getr hx hb hB inB9 hown hK hH (c0 := 0) h0.1 rfl 34 (by decide) k83 rfl (c1 := 25) rfl dX9_make_351 ?_
        refine lv_iload hx hb dX9_make_354 (lv_at hl 3 rfl) ?_
        obtain ⟨hi34, h⟩ := h
        refine g_iald hx hb hK hH (c0 := 25) (mA25 h0) hi34 dX9_make_356 ?_
        refine lv_iconst (v := 0) hx hb dX9_make_357 (by decide) ?_
        refine g_callVi (As := [.int x4, .int ((σ32 4 x4.toNatClampNeg) - 1), .int 0, .int (σ32 25 x5.toNatClampNeg), .int 0]) (rest := []) ⟨hx, hb, hml, hown, hB⟩ hK hX aA_hA hH (c0 := 0) (tX9_data h0 h) (cwV 5 hB gVX9_299 rfl rfl rfl (by decide +kernel) ⟨Nat.le_of_ble_eq_true rfl, Nat.le_of_ble_eq_true rfl⟩) h0.1 rfl rfl hl.1 rfl (lv_room (Nat.le_of_ble_eq_true rfl)) ⟨Nat.zero_le _, Nat.zero_le _⟩ dX9_make_358 (fun r35 σ35 H locs h hH => ?_)
        exact g_iret hx hb hr hK hlk h hH dX9_make_361
      · replace h := h.2 q24
        refine lv_sipush (v := 4400) hx hb dX9_make_162 (by decide) ?_
        refine lv_iload hx hb dX9_make_165 (lv_at hl 2 rfl) ?_
        refine lv_imul hx hb dX9_make_167 ?_
        refine lv_iload hx hb dX9_make_168 (lv_at hl 5 rfl) ?_
        refine lv_iadd hx hb dX9_make_170 ?_
        refine lv_topi (fun x8_36 ex8_36 => ?_)
        replace h := h x8_36 ex8_36
        refine lv_istore (lv' := [(8, .int x8_36), (0, .ref (ga G 0)), (3, .int x3), (4, .int x4), (5, .int x5), (6, .int x6), (7, .int x7)]) hx hb dX9_make_171 hl (by decide) rfl (fun ls hl => ?_)
        refine lv_aload_n hx hb dX9_make_173 rfl (lv_at hl 1 rfl) ?_
        refine g_getr hx hb hB inB9 hown hK hH (c0 := 0) h0.1 rfl 36 (by decide) k89 rfl (c1 := 27) rfl dX9_make_174 ?_
        refine lv_sipush (v := 240) hx hb dX9_make_177 (by decide) ?_
        refine lv_iload hx hb dX9_make_180 (lv_at hl 4 rfl) ?_
        refine lv_imul hx hb dX9_make_182 ?_
        refine lv_iload hx hb dX9_make_183 (lv_at hl 6 rfl) ?_
        refine lv_iadd hx hb dX9_make_185 ?_
        refine lv_aload_n hx hb dX9_make_186 rfl (lv_at hl 1 rfl) ?_
        refine g_getr hx hb hB inB9 hown hK hH (c0 := 0) h0.1 rfl 29 (by decide) k68 rfl (c1 := 20) rfl dX9_make_187 ?_
        refine lv_iload hx hb dX9_make_190 (lv_at hl 0 rfl) ?_
        obtain ⟨hi37, h⟩ := h
        refine g_iald hx hb hK hH (c0 := 20) (mA20 h0) hi37 dX9_make_192 ?_
        obtain ⟨hi38, h⟩ := h
        refine g_iast hx hb hK hH (c0 := 27) (i := (240 * x5) + x7) (mA27 h0) hi38 dX9_make_193 (fun σ38 eσ38 H locs hH => ?_)
        replace h := h σ38 eσ38
        refine lv_aload_n hx hb dX9_make_194 rfl (lv_at hl 1 rfl) ?_
        refine g_getr hx hb hB inB9 hown hK hH (c0 := 0) h0.1 rfl 37 (by decide) k92 rfl (c1 := 28) rfl dX9_make_195 ?_
        refine lv_sipush (v := 240) hx hb dX9_make_198 (by decide) ?_
        refine lv_iload hx hb dX9_make_201 (lv_at hl 4 rfl) ?_
        refine lv_imul hx hb dX9_make_203 ?_
        refine lv_iload hx hb dX9_make_204 (lv_at hl 6 rfl) ?_
        refine lv_iadd hx hb dX9_make_206 ?_
        refine lv_aload_n hx hb dX9_make_207 rfl (lv_at hl 1 rfl) ?_
        refine g_getr hx hb hB inB9 hown hK hH (c0 := 0) h0.1 rfl 30 (by decide) k71 rfl (c1 := 21) rfl dX9_make_208 ?_
        refine lv_iload hx hb dX9_make_211 (lv_at hl 0 rfl) ?_
        obtain ⟨hi39, h⟩ := h
        refine g_iald hx hb hK hH (c0 := 21) (mA21 h0) hi39 dX9_make_213 ?_
        obtain ⟨hi40, h⟩ := h
        refine g_iast hx hb hK hH (c0 := 28) (i := (240 * x5) + x7) (mA28 h0) hi40 dX9_make_214 (fun σ40 eσ40 H locs hH => ?_)
        replace h := h σ40 eσ40
        refine lv_aload_n hx hb dX9_make_215 rfl (lv_at hl 1 rfl) ?_
        refine g_getr hx hb hB inB9 hown hK hH (c0 := 0) h0.1 rfl 39 (by decide) k98 rfl (c1 := 30) rfl dX9_make_216 ?_
        refine lv_sipush (v := 240) hx hb dX9_make_219 (by decide) ?_
        refine lv_iload hx hb dX9_make_222 (lv_at hl 4 rfl) ?_
        refine lv_imul hx hb dX9_make_224 ?_
        refine lv_iload hx hb dX9_make_225 (lv_at hl 6 rfl) ?_
        refine lv_iadd hx hb dX9_make_227 ?_
        refine lv_aload_n hx hb dX9_make_228 rfl (lv_at hl 1 rfl) ?_
        refine g_getr hx hb hB inB9 hown hK hH (c0 := 0) h0.1 rfl 32 (by decide) k77 rfl (c1 := 23) rfl dX9_make_229 ?_
        refine lv_iload hx hb dX9_make_232 (lv_at hl 0 rfl) ?_
        obtain ⟨hi41, h⟩ := h
        refine g_zald hx hb hK hH (c0 := 23) (mA23 h0) hi41 dX9_make_234 ?_
        obtain ⟨hz42, h⟩ := h
        obtain ⟨hi43, h⟩ := h
        refine g_zast hx hb hK hH (c0 := 30) (i := (240 * x5) + x7) (mA30 h0) hz42 hi43 dX9_make_235 (fun σ43 eσ43 H locs hH => ?_)
        replace h := h σ43 eσ43
        refine lv_aload_n hx hb dX9_make_236 rfl (lv_at hl 1 rfl) ?_
        refine g_getr hx hb hB inB9 hown hK hH (c0 := 0) h0.1 rfl 40 (by decide) k101 rfl (c1 := 31) rfl dX9_make_237 ?_
        refine lv_sipush (v := 240) hx hb dX9_make_240 (by decide) ?_
        refine lv_iload hx hb dX9_make_243 (lv_at hl 4 rfl) ?_
        refine lv_imul hx hb dX9_make_245 ?_
        refine lv_iload hx hb dX9_make_246 (lv_at hl 6 rfl) ?_
        refine lv_iadd hx hb dX9_make_248 ?_
        refine lv_aload_n hx hb dX9_make_249 rfl (lv_at hl 1 rfl) ?_
        refine g_getr hx hb hB inB9 hown hK hH (c0 := 0) h0.1 rfl 33 (by decide) k80 rfl (c1 := 24) rfl dX9_make_250 ?_
        refine lv_iload hx hb dX9_make_253 (lv_at hl 0 rfl) ?_
        obtain ⟨hi44, h⟩ := h
        refine g_zald hx hb hK hH (c0 := 24) (mA24 h0) hi44 dX9_make_255 ?_
        obtain ⟨hz45, h⟩ := h
        obtain ⟨hi46, h⟩ := h
        refine g_zast hx hb hK hH (c0 := 31) (i := (240 * x5) + x7) (mA31 h0) hz45 hi46 dX9_make_256 (fun σ46 eσ46 H locs hH => ?_)
        replace h := h σ46 eσ46
        refine lv_aload_n hx hb dX9_make_257 rfl (lv_at hl 1 rfl) ?_
        refine g_getr hx hb hB inB9 hown hK hH (c0 := 0) h0.1 rfl 41 (by decide) k104 rfl (c1 := 32) rfl dX9_make_258 ?_
        refine lv_sipush (v := 240) hx hb dX9_make_261 (by decide) ?_
        refine lv_iload hx hb dX9_make_264 (lv_at hl 4 rfl) ?_
        refine lv_imul hx hb dX9_make_266 ?_
        refine lv_iload hx hb dX9_make_267 (lv_at hl 6 rfl) ?_
        refine lv_iadd hx hb dX9_make_269 ?_
        refine lv_iconst (v := 0) hx hb dX9_make_270 (by decide) ?_
        obtain ⟨hi47, h⟩ := h
        refine g_zast hx hb hK hH (c0 := 32) (i := (240 * x5) + x7) (mA32 h0) vz0 hi47 dX9_make_271 (fun σ47 eσ47 H locs hH => ?_)
        replace h := h σ47 eσ47
        obtain ⟨x7_48, ex7_48⟩ : ∃ y : Int32, y = x7 + 1 := ⟨_, rfl⟩
        replace h := h x7_48 ex7_48
        refine lv_iinc (v := x7_48) (lv' := [(7, .int x7_48), (8, .int x8_36), (0, .ref (ga G 0)), (3, .int x3), (4, .int x4), (5, .int x5), (6, .int x6)]) hx hb dX9_make_272 hl (k := 6) rfl (by rw [ex7_48]; rfl) (by decide) rfl (fun ls hl => ?_)
        refine lv_goto (tgt := 155) hx hb dX9_make_275 (by decide) ?_
        exact ih155 x3 x4 x5 x6 x7_48 σ47 _ _ ls hH (lv_sub hl [2, 3, 4, 5, 6, 0] rfl) h
  have L150 : ∀ (x3 : Int32) (x4 : Int32) (x5 : Int32) (z0 : Int32) (σ : Sg) (H : Heap) (locs : List Loc) (ls : Array Slot), Hx G (aA G s.heap.size) s σ H locs → lv_has ls 9 [(0, .ref (ga G 0)), (3, .int x3), (4, .int x4), (5, .int x5)] → wpX9_make_L150 Q x3 x4 x5 z0 σ → W p l e ({ frames := 4, cells := 0, slots := 0, locals := 108 }) s m args below meth c H locs 0 0 (Zi G Q below args s) (F0 m 150 ls [.int z0]) := by
    intro x3 x4 x5 z0 σ H locs ls hH hl h
    unfold wpX9_make_L150 at h
    refine lv_istore (lv' := [(6, .int z0), (0, .ref (ga G 0)), (3, .int x3), (4, .int x4), (5, .int x5)]) hx hb dX9_make_150 hl (by decide) rfl (fun ls hl => ?_)
    refine lv_iconst (v := 0) hx hb dX9_make_152 (by decide) ?_
    refine lv_istore (lv' := [(7, .int 0), (6, .int z0), (0, .ref (ga G 0)), (3, .int x3), (4, .int x4), (5, .int x5)]) hx hb dX9_make_153 hl (by decide) rfl (fun ls hl => ?_)
    obtain ⟨nn, h⟩ := h
    exact L155 nn x3 x4 x5 z0 0 σ _ _ ls hH (lv_sub hl [2, 3, 4, 5, 1, 0] rfl) h
  have L40 : ∀ (x3 : Int32) (x4 : Int32) (σ : Sg) (H : Heap) (locs : List Loc) (ls : Array Slot), Hx G (aA G s.heap.size) s σ H locs → lv_has ls 9 [(0, .ref (ga G 0)), (3, .int x3), (4, .int x4)] → wpX9_make_L40 Q x3 x4 σ → W p l e ({ frames := 4, cells := 0, slots := 0, locals := 108 }) s m args below meth c H locs 0 0 (Zi G Q below args s) (F0 m 40 ls []) := by
    intro x3 x4 σ H locs ls hH hl h
    unfold wpX9_make_L40 at h
    refine lv_aload_n hx hb dX9_make_40 rfl (lv_at hl 0 rfl) ?_
    refine g_getr hx hb hB inB9 hown hK hH (c0 := 0) h0.1 rfl 22 (by decide) k47 rfl (c1 := 13) rfl dX9_make_41 ?_
    refine lv_iload hx hb dX9_make_44 (lv_at hl 2 rfl) ?_
    obtain ⟨hi8, h⟩ := h
    refine g_zald hx hb hK hH (c0 := 13) (mA13 h0) hi8 dX9_make_46 ?_
    refine lv_if_eq (tgt := 52) hx hb dX9_make_47 (by decide) (fun q9 => ?_) (fun q9 => ?_)
    · replace h := h.1 q9
      refine lv_aload_n hx hb dX9_make_52 rfl (lv_at hl 0 rfl) ?_
      refine lv_iload hx hb dX9_make_53 (lv_at hl 2 rfl) ?_
      refine g_callVi (As := [.int x4]) (rest := []) ⟨hx, hb, hml, hown, hB⟩ hK hX aA_hA hH (c0 := 0) (tX9_allAgain h0 h) (cwV 1 hB gVX9_289 rfl rfl rfl (by decide +kernel) ⟨Nat.le_of_ble_eq_true rfl, Nat.le_of_ble_eq_true rfl⟩) h0.1 rfl rfl hl.1 rfl (lv_room (Nat.le_of_ble_eq_true rfl)) ⟨Nat.zero_le _, Nat.zero_le _⟩ dX9_make_55 (fun r10 σ10 H locs h hH => ?_)
      refine lv_if_le (tgt := 69) hx hb dX9_make_58 (by decide) (fun q11 => ?_) (fun q11 => ?_)
      · replace h := h.1 q11
        refine lv_aload_n hx hb dX9_make_69 rfl (lv_at hl 0 rfl) ?_
        refine g_getr hx hb hB inB9 hown hK hH (c0 := 0) h0.1 rfl 31 (by decide) k74 rfl (c1 := 22) rfl dX9_make_70 ?_
        refine lv_iload hx hb dX9_make_73 (lv_at hl 2 rfl) ?_
        obtain ⟨hi12, h⟩ := h
        refine g_iald hx hb hK hH (c0 := 22) (mA22 h0) hi12 dX9_make_75 ?_
        refine lv_if_eq (tgt := 104) hx hb dX9_make_76 (by decide) (fun q13 => ?_) (fun q13 => ?_)
        · replace h := h.1 q13
          refine lv_iconst (v := 0) hx hb dX9_make_104 (by decide) ?_
          exact g_iret hx hb hr hK hlk h hH dX9_make_105
        · replace h := h.2 q13
          refine lv_aload_n hx hb dX9_make_79 rfl (lv_at hl 0 rfl) ?_
          refine g_getr hx hb hB inB9 hown hK hH (c0 := 0) h0.1 rfl 13 (by decide) k19 rfl (c1 := 4) rfl dX9_make_80 ?_
          refine lv_iload hx hb dX9_make_83 (lv_at hl 2 rfl) ?_
          obtain ⟨hi14, h⟩ := h
          refine g_iald hx hb hK hH (c0 := 4) (mA4 h0) hi14 dX9_make_85 ?_
          refine lv_aload_n hx hb dX9_make_86 rfl (lv_at hl 0 rfl) ?_
          refine g_getr hx hb hB inB9 hown hK hH (c0 := 0) h0.1 rfl 12 (by decide) k16 rfl (c1 := 3) rfl dX9_make_87 ?_
          refine lv_iload hx hb dX9_make_90 (lv_at hl 2 rfl) ?_
          obtain ⟨hi15, h⟩ := h
          refine g_iald hx hb hK hH (c0 := 3) (mA3 h0) hi15 dX9_make_92 ?_
          refine lv_isub hx hb dX9_make_93 ?_
          refine lv_bipush (v := 16) hx hb dX9_make_94 (by decide) ?_
          refine lv_icmp_ge (tgt := 104) hx hb dX9_make_96 (by decide) (fun q16 => ?_) (fun q16 => ?_)
          · replace h := h.1 q16
            refine lv_iconst (v := 0) hx hb dX9_make_104 (by decide) ?_
            exact g_iret hx hb hr hK hlk h hH dX9_make_105
          · replace h := h.2 q16
            refine lv_iload_n hx hb dX9_make_99 rfl (lv_at hl 1 rfl) ?_
            refine lv_iconst (v := 3) hx hb dX9_make_100 (by decide) ?_
            refine lv_icmp_ge (tgt := 106) hx hb dX9_make_101 (by decide) (fun q17 => ?_) (fun q17 => ?_)
            · replace h := h.1 q17
              refine lv_bipush (v := 16) hx hb dX9_make_106 (by decide) ?_
              refine lv_iload hx hb dX9_make_108 (lv_at hl 2 rfl) ?_
              refine lv_imul hx hb dX9_make_110 ?_
              refine lv_aload_n hx hb dX9_make_111 rfl (lv_at hl 0 rfl) ?_
              refine g_getr hx hb hB inB9 hown hK hH (c0 := 0) h0.1 rfl 13 (by decide) k19 rfl (c1 := 4) rfl dX9_make_112 ?_
              refine lv_iload hx hb dX9_make_115 (lv_at hl 2 rfl) ?_
              obtain ⟨hi18, h⟩ := h
              refine g_iald hx hb hK hH (c0 := 4) (mA4 h0) hi18 dX9_make_117 ?_
              refine lv_bipush (v := 15) hx hb dX9_make_118 (by decide) ?_
              refine lv_iand hx hb dX9_make_120 ?_
              refine lv_iadd hx hb dX9_make_121 ?_
              refine lv_topi (fun x5_19 ex5_19 => ?_)
              replace h := h x5_19 ex5_19
              refine lv_istore (lv' := [(5, .int x5_19), (0, .ref (ga G 0)), (3, .int x3), (4, .int x4)]) hx hb dX9_make_122 hl (by decide) rfl (fun ls hl => ?_)
              refine lv_aload_n hx hb dX9_make_124 rfl (lv_at hl 1 rfl) ?_
              refine g_getr hx hb hB inB9 hown hK hH (c0 := 0) h0.1 rfl 31 (by decide) k74 rfl (c1 := 22) rfl dX9_make_125 ?_
              refine lv_iload hx hb dX9_make_128 (lv_at hl 3 rfl) ?_
              obtain ⟨hi20, h⟩ := h
              refine g_iald hx hb hK hH (c0 := 22) (mA22 h0) hi20 dX9_make_130 ?_
              refine lv_sipush (v := 240) hx hb dX9_make_131 (by decide) ?_
              refine lv_icmp_ge (tgt := 147) hx hb dX9_make_134 (by decide) (fun q21 => ?_) (fun q21 => ?_)
              · replace h := h.1 q21
                refine lv_sipush (v := 240) hx hb dX9_make_147 (by decide) ?_
                exact L150 x3 x4 x5_19 240 σ10 _ _ ls hH (lv_sub hl [1, 2, 3, 0] rfl) h
              · replace h := h.2 q21
                refine lv_aload_n hx hb dX9_make_137 rfl (lv_at hl 1 rfl) ?_
                refine g_getr hx hb hB inB9 hown hK hH (c0 := 0) h0.1 rfl 31 (by decide) k74 rfl (c1 := 22) rfl dX9_make_138 ?_
                refine lv_iload hx hb dX9_make_141 (lv_at hl 3 rfl) ?_
                obtain ⟨hi22, h⟩ := h
                refine g_iald hx hb hK hH (c0 := 22) (mA22 h0) hi22 dX9_make_143 ?_
                refine lv_goto (tgt := 150) hx hb dX9_make_144 (by decide) ?_
                exact L150 x3 x4 x5_19 (σ10 22 x4.toNatClampNeg) σ10 _ _ ls hH (lv_sub hl [1, 2, 3, 0] rfl) h
            · replace h := h.2 q17
              refine lv_iconst (v := 0) hx hb dX9_make_104 (by decide) ?_
              exact g_iret hx hb hr hK hlk h hH dX9_make_105
      · replace h := h.2 q11
        refine lv_aload_n hx hb dX9_make_61 rfl (lv_at hl 0 rfl) ?_
        refine lv_iload hx hb dX9_make_62 (lv_at hl 2 rfl) ?_
        refine lv_iload_n hx hb dX9_make_64 rfl (lv_at hl 1 rfl) ?_
        refine g_callVi (As := [.int x4, .int x3]) (rest := []) ⟨hx, hb, hml, hown, hB⟩ hK hX aA_hA hH (c0 := 0) (tX9_makeAgain h0 h) (cwV 2 hB gVX9_292 rfl rfl rfl (by decide +kernel) ⟨Nat.le_of_ble_eq_true rfl, Nat.le_of_ble_eq_true rfl⟩) h0.1 rfl rfl hl.1 rfl (lv_room (Nat.le_of_ble_eq_true rfl)) ⟨Nat.zero_le _, Nat.zero_le _⟩ dX9_make_65 (fun r23 σ23 H locs h hH => ?_)
        exact g_iret hx hb hr hK hlk h hH dX9_make_68
    · replace h := h.2 q9
      refine lv_iconst (v := 0) hx hb dX9_make_50 (by decide) ?_
      exact g_iret hx hb hr hK hlk h hH dX9_make_51
  unfold wpX9_make at h
  refine lv_iload_n hx hb dX9_make_0 rfl (lv_at hl 1 rfl) ?_
  refine lv_iload_n hx hb dX9_make_1 rfl (lv_at hl 2 rfl) ?_
  refine g_callSi (As := [.int x1, .int x2]) (rest := []) ⟨hx, hb, hml, hown, hB⟩ hK hX aA_hA hH (tX9_at h) (va_cwS 2 hB gSX9_258 rfl rfl rfl (by decide +kernel) ⟨Nat.le_of_ble_eq_true rfl, Nat.le_of_ble_eq_true rfl⟩) rfl hl.1 rfl (lv_room (Nat.le_of_ble_eq_true rfl)) ⟨Nat.zero_le _, Nat.zero_le _⟩ dX9_make_2 (fun r1 σ1 H locs h hH => ?_)
  refine lv_istore (lv' := [(4, .int r1), (0, .ref (ga G 0)), (1, .int x1), (2, .int x2), (3, .int x3)]) hx hb dX9_make_5 hl (by decide) rfl (fun ls hl => ?_)
  refine lv_aload_n hx hb dX9_make_7 rfl (lv_at hl 1 rfl) ?_
  refine g_getr hx hb hB inB9 hown hK hH (c0 := 0) h0.1 rfl 52 (by decide) k137 rfl (c1 := 43) rfl dX9_make_8 ?_
  refine lv_iload hx hb dX9_make_11 (lv_at hl 0 rfl) ?_
  obtain ⟨hi2, h⟩ := h
  refine g_zald hx hb hK hH (c0 := 43) (mA43 h0) hi2 dX9_make_13 ?_
  refine lv_if_eq (tgt := 40) hx hb dX9_make_14 (by decide) (fun q3 => ?_) (fun q3 => ?_)
  · replace h := h.1 q3
    exact L40 x3 r1 σ1 _ _ ls hH (lv_sub hl [1, 4, 0] rfl) h
  · replace h := h.2 q3
    refine lv_aload_n hx hb dX9_make_17 rfl (lv_at hl 1 rfl) ?_
    refine g_getr hx hb hB inB9 hown hK hH (c0 := 0) h0.1 rfl 47 (by decide) k122 rfl (c1 := 38) rfl dX9_make_18 ?_
    refine lv_iload hx hb dX9_make_21 (lv_at hl 0 rfl) ?_
    obtain ⟨hi4, h⟩ := h
    refine g_iald hx hb hK hH (c0 := 38) (mA38 h0) hi4 dX9_make_23 ?_
    refine lv_if_ne (tgt := 40) hx hb dX9_make_24 (by decide) (fun q5 => ?_) (fun q5 => ?_)
    · replace h := h.1 q5
      exact L40 x3 r1 σ1 _ _ ls hH (lv_sub hl [1, 4, 0] rfl) h
    · replace h := h.2 q5
      refine lv_iload_n hx hb dX9_make_27 rfl (lv_at hl 4 rfl) ?_
      refine lv_iconst (v := 2) hx hb dX9_make_28 (by decide) ?_
      refine lv_icmp_lt (tgt := 40) hx hb dX9_make_29 (by decide) (fun q6 => ?_) (fun q6 => ?_)
      · replace h := h.1 q6
        exact L40 x3 r1 σ1 _ _ ls hH (lv_sub hl [1, 4, 0] rfl) h
      · replace h := h.2 q6
        refine lv_aload_n hx hb dX9_make_32 rfl (lv_at hl 1 rfl) ?_
        refine lv_iload hx hb dX9_make_33 (lv_at hl 0 rfl) ?_
        refine lv_iload_n hx hb dX9_make_35 rfl (lv_at hl 4 rfl) ?_
        refine g_callVi (As := [.int r1, .int x3]) (rest := []) ⟨hx, hb, hml, hown, hB⟩ hK hX aA_hA hH (c0 := 0) (tX9_makeStatus h0 h) (cwV 2 hB gVX9_286 rfl rfl rfl (by decide +kernel) ⟨Nat.le_of_ble_eq_true rfl, Nat.le_of_ble_eq_true rfl⟩) h0.1 rfl rfl hl.1 rfl (lv_room (Nat.le_of_ble_eq_true rfl)) ⟨Nat.zero_le _, Nat.zero_le _⟩ dX9_make_36 (fun r7 σ7 H locs h hH => ?_)
        exact g_iret hx hb hr hK hlk h hH dX9_make_39
def wpX9_meant (x0 : Int32) (x1 : Int32) (σ : Sg) (Q : Int32 → Sg → Prop) : Prop := Q (x0 + ((x1 - x0) &&& 63)) σ
set_option maxHeartbeats 8000000 in
set_option maxRecDepth 100000 in
theorem tX9_meant {l : Launch} {G : GG} {x0 : Int32} {x1 : Int32} {σ : Sg} {Q : Int32 → Sg → Prop} (h : wpX9_meant x0 x1 σ Q) : Ki l G yX9_meant (wB yX9_meant prog_11_method_28_code 2 (Option.some FieldType.int)) ({ frames := 0, cells := 0, slots := 0, locals := 0 }) [.int x0, .int x1] σ Q := by
  refine K_of (cc := cX9_meant) (maxL := 2) (ret := (some .int)) (by decide) rfl (Nat.le_of_ble_eq_true rfl) ?_
  intro p e s m args below meth c ls B hH hl
  obtain ⟨hx, hb, hr, hts, hown, hlk, hml, hK, hX⟩ := B
  replace hl : lv_has ls 2 [(0, .int x0), (1, .int x1)] := hl
  have hB : ∀ w ∈ BIG, w.before args s = true := fun w h9 => hts w (List.mem_cons_of_mem _ h9)
  clear hts
  unfold wpX9_meant at h
  refine lv_iload_n hx hb dX9_meant_0 rfl (lv_at hl 0 rfl) ?_
  refine lv_iload_n hx hb dX9_meant_1 rfl (lv_at hl 1 rfl) ?_
  refine lv_iload_n hx hb dX9_meant_2 rfl (lv_at hl 0 rfl) ?_
  refine lv_isub hx hb dX9_meant_3 ?_
  refine lv_bipush (v := 63) hx hb dX9_meant_4 (by decide) ?_
  refine lv_iand hx hb dX9_meant_6 ?_
  refine lv_iadd hx hb dX9_meant_7 ?_
  exact g_iret hx hb hr hK hlk h hH dX9_meant_8
def wpX9_comesAgain_L52 (Q : Sg → Prop) : Nat → Int32 → Int32 → Int32 → Sg → Prop
  | 0, _, _, _, _ => False
  | n + 1, x4, x5, x6, σ => ((x4 < x6 → Q σ) ∧ (¬ (x4 < x6) → (vp_in x5 96 ∧ (((σ 25 x5.toNatClampNeg) ≤ x6 → Q σ) ∧ (¬ ((σ 25 x5.toNatClampNeg) ≤ x6) → (vp_in ((240 * x5) + x6) 23040 ∧ ∀ σ12 : Sg, σ12 = up2 σ 32 (((240 * x5) + x6).toNatClampNeg) 1 → ∀ x6_13 : Int32, x6_13 = x6 + 1 → (wpX9_comesAgain_L52 Q n) x4 x5 x6_13 σ12))))))
def wpX9_comesAgain_L49 (Q : Sg → Prop) (x3 : Int32) (x4 : Int32) (x5 : Int32) (σ : Sg) : Prop := ∃ nn, wpX9_comesAgain_L52 Q nn x4 x5 x3 σ
def wpX9_comesAgain (x1 : Int32) (x2 : Int32) (x3 : Int32) (x4 : Int32) (σ : Sg) (Q : Sg → Prop) : Prop := ∀ x5_1 : Int32, x5_1 = (16 * x1) + (x2 &&& 15) → wpX9_isAgain x1 x2 σ (fun r2 σ2 => ((¬ r2 = 0 → wpX9_comesAgain_L49 Q x3 x4 x5_1 σ2) ∧ (r2 = 0 → (vp_in x5_1 96 ∧ (vp_in x5_1 96 ∧ ∀ σ5 : Sg, σ5 = up2 σ2 26 x5_1.toNatClampNeg ((σ2 26 x5_1.toNatClampNeg) + 1) → (vp_in x5_1 96 ∧ ((¬ (σ5 26 x5_1.toNatClampNeg) = 5 → wpX9_comesAgain_L49 Q x3 x4 x5_1 σ5) ∧ ((σ5 26 x5_1.toNatClampNeg) = 5 → (vp_in x1 6 ∧ ∀ σ8 : Sg, σ8 = up2 σ5 13 x1.toNatClampNeg 1 → wpX9_comesAgain_L49 Q x3 x4 x5_1 σ8)))))))))
set_option maxHeartbeats 8000000 in
set_option maxRecDepth 100000 in
theorem tX9_comesAgain {l : Launch} {G : GG} {x1 : Int32} {x2 : Int32} {x3 : Int32} {x4 : Int32} {σ : Sg} {Q : Sg → Prop} (h0 : isModel G) (h : wpX9_comesAgain x1 x2 x3 x4 σ Q) : Kv l G yX9_comesAgain (wB yX9_comesAgain prog_11_method_29_code 7 none) ({ frames := 1, cells := 0, slots := 0, locals := 25 }) [.ref (ga G 0), .int x1, .int x2, .int x3, .int x4] σ Q := by
  refine K_of (cc := cX9_comesAgain) (maxL := 7) (ret := none) (by decide) rfl (Nat.le_of_ble_eq_true rfl) ?_
  intro p e s m args below meth c ls B hH hl
  obtain ⟨hx, hb, hr, hts, hown, hlk, hml, hK, hX⟩ := B
  replace hl : lv_has ls 7 [(0, .ref (ga G 0)), (1, .int x1), (2, .int x2), (3, .int x3), (4, .int x4)] := hl
  have hB : ∀ w ∈ BIG, w.before args s = true := fun w h9 => hts w (List.mem_cons_of_mem _ h9)
  clear hts
  have k47 := hB _ bw4_132
  have k83 := hB _ bw4_144
  have k86 := hB _ bw4_145
  have k104 := hB _ bw4_151
  have L52 : ∀ (n52 : Nat) (x4 : Int32) (x5 : Int32) (x6 : Int32) (σ : Sg) (H : Heap) (locs : List Loc) (ls : Array Slot), Hx G (aA G s.heap.size) s σ H locs → lv_has ls 7 [(0, .ref (ga G 0)), (4, .int x4), (5, .int x5), (6, .int x6)] → wpX9_comesAgain_L52 Q n52 x4 x5 x6 σ → W p l e ({ frames := 1, cells := 0, slots := 0, locals := 25 }) s m args below meth c H locs 0 0 (Zv G Q below args s) (F0 m 52 ls []) := by
    intro n52
    induction n52 with
    | zero =>
      intro x4 x5 x6 σ H locs ls hH hl h
      exact False.elim h
    | succ n52 ih52 =>
      intro x4 x5 x6 σ H locs ls hH hl h
      unfold wpX9_comesAgain_L52 at h
      refine lv_iload hx hb dX9_comesAgain_52 (lv_at hl 3 rfl) ?_
      refine lv_iload hx hb dX9_comesAgain_54 (lv_at hl 1 rfl) ?_
      refine lv_icmp_gt (tgt := 92) hx hb dX9_comesAgain_56 (by decide) (fun q9 => ?_) (fun q9 => ?_)
      · replace h := h.1 q9
        exact g_vret hx hb hr hK hlk h hH dX9_comesAgain_92
      · replace h := h.2 q9
        refine lv_iload hx hb dX9_comesAgain_59 (lv_at hl 3 rfl) ?_
        refine lv_aload_n hx hb dX9_comesAgain_61 rfl (lv_at hl 0 rfl) ?_
        refine g_getr hx hb hB inB9 hown hK hH (c0 := 0) h0.1 rfl 34 (by decide) k83 rfl (c1 := 25) rfl dX9_comesAgain_62 ?_
        refine lv_iload hx hb dX9_comesAgain_65 (lv_at hl 2 rfl) ?_
        obtain ⟨hi10, h⟩ := h
        refine g_iald hx hb hK hH (c0 := 25) (mA25 h0) hi10 dX9_comesAgain_67 ?_
        refine lv_icmp_ge (tgt := 92) hx hb dX9_comesAgain_68 (by decide) (fun q11 => ?_) (fun q11 => ?_)
        · replace h := h.1 q11
          exact g_vret hx hb hr hK hlk h hH dX9_comesAgain_92
        · replace h := h.2 q11
          refine lv_aload_n hx hb dX9_comesAgain_71 rfl (lv_at hl 0 rfl) ?_
          refine g_getr hx hb hB inB9 hown hK hH (c0 := 0) h0.1 rfl 41 (by decide) k104 rfl (c1 := 32) rfl dX9_comesAgain_72 ?_
          refine lv_sipush (v := 240) hx hb dX9_comesAgain_75 (by decide) ?_
          refine lv_iload hx hb dX9_comesAgain_78 (lv_at hl 2 rfl) ?_
          refine lv_imul hx hb dX9_comesAgain_80 ?_
          refine lv_iload hx hb dX9_comesAgain_81 (lv_at hl 3 rfl) ?_
          refine lv_iadd hx hb dX9_comesAgain_83 ?_
          refine lv_iconst (v := 1) hx hb dX9_comesAgain_84 (by decide) ?_
          obtain ⟨hi12, h⟩ := h
          refine g_zast hx hb hK hH (c0 := 32) (i := (240 * x5) + x6) (mA32 h0) vz1 hi12 dX9_comesAgain_85 (fun σ12 eσ12 H locs hH => ?_)
          replace h := h σ12 eσ12
          obtain ⟨x6_13, ex6_13⟩ : ∃ y : Int32, y = x6 + 1 := ⟨_, rfl⟩
          replace h := h x6_13 ex6_13
          refine lv_iinc (v := x6_13) (lv' := [(6, .int x6_13), (0, .ref (ga G 0)), (4, .int x4), (5, .int x5)]) hx hb dX9_comesAgain_86 hl (k := 3) rfl (by rw [ex6_13]; rfl) (by decide) rfl (fun ls hl => ?_)
          refine lv_goto (tgt := 52) hx hb dX9_comesAgain_89 (by decide) ?_
          exact ih52 x4 x5 x6_13 σ12 _ _ ls hH (lv_sub hl [1, 2, 3, 0] rfl) h
  have L49 : ∀ (x3 : Int32) (x4 : Int32) (x5 : Int32) (σ : Sg) (H : Heap) (locs : List Loc) (ls : Array Slot), Hx G (aA G s.heap.size) s σ H locs → lv_has ls 7 [(0, .ref (ga G 0)), (3, .int x3), (4, .int x4), (5, .int x5)] → wpX9_comesAgain_L49 Q x3 x4 x5 σ → W p l e ({ frames := 1, cells := 0, slots := 0, locals := 25 }) s m args below meth c H locs 0 0 (Zv G Q below args s) (F0 m 49 ls []) := by
    intro x3 x4 x5 σ H locs ls hH hl h
    unfold wpX9_comesAgain_L49 at h
    refine lv_iload_n hx hb dX9_comesAgain_49 rfl (lv_at hl 1 rfl) ?_
    refine lv_istore (lv' := [(6, .int x3), (0, .ref (ga G 0)), (3, .int x3), (4, .int x4), (5, .int x5)]) hx hb dX9_comesAgain_50 hl (by decide) rfl (fun ls hl => ?_)
    obtain ⟨nn, h⟩ := h
    exact L52 nn x4 x5 x3 σ _ _ ls hH (lv_sub hl [1, 3, 4, 0] rfl) h
  unfold wpX9_comesAgain at h
  refine lv_bipush (v := 16) hx hb dX9_comesAgain_0 (by decide) ?_
  refine lv_iload_n hx hb dX9_comesAgain_2 rfl (lv_at hl 1 rfl) ?_
  refine lv_imul hx hb dX9_comesAgain_3 ?_
  refine lv_iload_n hx hb dX9_comesAgain_4 rfl (lv_at hl 2 rfl) ?_
  refine lv_bipush (v := 15) hx hb dX9_comesAgain_5 (by decide) ?_
  refine lv_iand hx hb dX9_comesAgain_7 ?_
  refine lv_iadd hx hb dX9_comesAgain_8 ?_
  refine lv_topi (fun x5_1 ex5_1 => ?_)
  replace h := h x5_1 ex5_1
  refine lv_istore (lv' := [(5, .int x5_1), (0, .ref (ga G 0)), (1, .int x1), (2, .int x2), (3, .int x3), (4, .int x4)]) hx hb dX9_comesAgain_9 hl (by decide) rfl (fun ls hl => ?_)
  refine lv_aload_n hx hb dX9_comesAgain_11 rfl (lv_at hl 1 rfl) ?_
  refine lv_iload_n hx hb dX9_comesAgain_12 rfl (lv_at hl 2 rfl) ?_
  refine lv_iload_n hx hb dX9_comesAgain_13 rfl (lv_at hl 3 rfl) ?_
  refine g_callVi (As := [.int x1, .int x2]) (rest := []) ⟨hx, hb, hml, hown, hB⟩ hK hX aA_hA hH (c0 := 0) (tX9_isAgain h0 h) (cwV 2 hB gVX9_283 rfl rfl rfl (by decide +kernel) ⟨Nat.le_of_ble_eq_true rfl, Nat.le_of_ble_eq_true rfl⟩) h0.1 rfl rfl hl.1 rfl (lv_room (Nat.le_of_ble_eq_true rfl)) ⟨Nat.zero_le _, Nat.zero_le _⟩ dX9_comesAgain_14 (fun r2 σ2 H locs h hH => ?_)
  refine lv_if_ne (tgt := 49) hx hb dX9_comesAgain_17 (by decide) (fun q3 => ?_) (fun q3 => ?_)
  · replace h := h.1 q3
    exact L49 x3 x4 x5_1 σ2 _ _ ls hH (lv_sub hl [1, 4, 5, 0] rfl) h
  · replace h := h.2 q3
    refine lv_aload_n hx hb dX9_comesAgain_20 rfl (lv_at hl 1 rfl) ?_
    refine g_getr hx hb hB inB9 hown hK hH (c0 := 0) h0.1 rfl 35 (by decide) k86 rfl (c1 := 26) rfl dX9_comesAgain_21 ?_
    refine lv_iload hx hb dX9_comesAgain_24 (lv_at hl 0 rfl) ?_
    refine lv_dup2_11 hx hb dX9_comesAgain_26 rfl rfl ?_
    obtain ⟨hi4, h⟩ := h
    refine g_iald hx hb hK hH (c0 := 26) (mA26 h0) hi4 dX9_comesAgain_27 ?_
    refine lv_iconst (v := 1) hx hb dX9_comesAgain_28 (by decide) ?_
    refine lv_iadd hx hb dX9_comesAgain_29 ?_
    obtain ⟨hi5, h⟩ := h
    refine g_iast hx hb hK hH (c0 := 26) (i := x5_1) (mA26 h0) hi5 dX9_comesAgain_30 (fun σ5 eσ5 H locs hH => ?_)
    replace h := h σ5 eσ5
    refine lv_aload_n hx hb dX9_comesAgain_31 rfl (lv_at hl 1 rfl) ?_
    refine g_getr hx hb hB inB9 hown hK hH (c0 := 0) h0.1 rfl 35 (by decide) k86 rfl (c1 := 26) rfl dX9_comesAgain_32 ?_
    refine lv_iload hx hb dX9_comesAgain_35 (lv_at hl 0 rfl) ?_
    obtain ⟨hi6, h⟩ := h
    refine g_iald hx hb hK hH (c0 := 26) (mA26 h0) hi6 dX9_comesAgain_37 ?_
    refine lv_iconst (v := 5) hx hb dX9_comesAgain_38 (by decide) ?_
    refine lv_icmp_ne (tgt := 49) hx hb dX9_comesAgain_39 (by decide) (fun q7 => ?_) (fun q7 => ?_)
    · replace h := h.1 q7
      exact L49 x3 x4 x5_1 σ5 _ _ ls hH (lv_sub hl [1, 4, 5, 0] rfl) h
    · replace h := h.2 q7
      refine lv_aload_n hx hb dX9_comesAgain_42 rfl (lv_at hl 1 rfl) ?_
      refine g_getr hx hb hB inB9 hown hK hH (c0 := 0) h0.1 rfl 22 (by decide) k47 rfl (c1 := 13) rfl dX9_comesAgain_43 ?_
      refine lv_iload_n hx hb dX9_comesAgain_46 rfl (lv_at hl 2 rfl) ?_
      refine lv_iconst (v := 1) hx hb dX9_comesAgain_47 (by decide) ?_
      obtain ⟨hi8, h⟩ := h
      refine g_zast hx hb hK hH (c0 := 13) (i := x1) (mA13 h0) vz1 hi8 dX9_comesAgain_48 (fun σ8 eσ8 H locs hH => ?_)
      replace h := h σ8 eσ8
      exact L49 x3 x4 x5_1 σ8 _ _ ls hH (lv_sub hl [1, 4, 5, 0] rfl) h
def wpX9_isNamed_L59 (Q : Int32 → Sg → Prop) (K11 : Nat → Int32 → Int32 → Int32 → Int32 → Int32 → Sg → Prop) (c0 : Nat) (x2 : Int32) (x3 : Int32) (x5 : Int32) (x6 : Int32) (z0 : Int32) (z1 : Int32) (σ : Sg) : Prop := ∀ x4_8 : Int32, x4_8 = z1 + z0 → ∀ x6_9 : Int32, x6_9 = x6 + 1 → K11 c0 x2 x3 x4_8 x5 x6_9 σ
def wpX9_isNamed_L41 (Q : Int32 → Sg → Prop) (K11 : Nat → Int32 → Int32 → Int32 → Int32 → Int32 → Sg → Prop) (c0 : Nat) (x2 : Int32) (x3 : Int32) (x4 : Int32) (x6 : Int32) (z0 : Int32) (σ : Sg) : Prop := (vp_in x4 500 ∧ (((σ c0 x4.toNatClampNeg) ≤ 127 → wpX9_isNamed_L59 Q K11 c0 x2 x3 z0 x6 1 x4 σ) ∧ (¬ ((σ c0 x4.toNatClampNeg) ≤ 127) → wpX9_isNamed_L59 Q K11 c0 x2 x3 z0 x6 3 x4 σ)))
def wpX9_isNamed_L36 (Q : Int32 → Sg → Prop) (K11 : Nat → Int32 → Int32 → Int32 → Int32 → Int32 → Sg → Prop) (c0 : Nat) (x2 : Int32) (x3 : Int32) (x4 : Int32) (x6 : Int32) (σ : Sg) : Prop := wpX9_isNamed_L41 Q K11 c0 x2 x3 x4 x6 1 σ
def wpX9_isNamed_L11 (Q : Int32 → Sg → Prop) : Nat → Nat → Int32 → Int32 → Int32 → Int32 → Int32 → Sg → Prop
  | 0, _, _, _, _, _, _, _ => False
  | n + 1, c0, x2, x3, x4, x5, x6, σ => ((x2 ≤ x6 → (vz x5 ∧ Q x5 σ)) ∧ (¬ (x2 ≤ x6) → ((¬ x5 = 0 → wpX9_isNamed_L36 Q (wpX9_isNamed_L11 Q n) c0 x2 x3 x4 x6 σ) ∧ (x5 = 0 → (vp_in x4 500 ∧ ((¬ ((σ c0 x4.toNatClampNeg) &&& 63) = (x3 &&& 63) → wpX9_isNamed_L41 Q (wpX9_isNamed_L11 Q n) c0 x2 x3 x4 x6 0 σ) ∧ (((σ c0 x4.toNatClampNeg) &&& 63) = (x3 &&& 63) → wpX9_isNamed_L36 Q (wpX9_isNamed_L11 Q n) c0 x2 x3 x4 x6 σ)))))))
def wpX9_isNamed (c0 : Nat) (x1 : Int32) (x2 : Int32) (x3 : Int32) (σ : Sg) (Q : Int32 → Sg → Prop) : Prop := ∀ x4_1 : Int32, x4_1 = x1 + 2 → ∃ nn, wpX9_isNamed_L11 Q nn c0 x2 x3 x4_1 0 0 σ
set_option maxHeartbeats 8000000 in
set_option maxRecDepth 100000 in
theorem tX9_isNamed {l : Launch} {G : GG} {c0 : Nat} {x1 : Int32} {x2 : Int32} {x3 : Int32} {σ : Sg} {Q : Int32 → Sg → Prop} (hc0 : isI G 500 c0) (h : wpX9_isNamed c0 x1 x2 x3 σ Q) : Ki l G yX9_isNamed (wB yX9_isNamed prog_11_method_31_code 7 (Option.some FieldType.boolean)) ({ frames := 0, cells := 0, slots := 0, locals := 0 }) [.ref (ga G c0), .int x1, .int x2, .int x3] σ Q := by
  refine K_of (cc := cX9_isNamed) (maxL := 7) (ret := (some .boolean)) (by decide) rfl (Nat.le_of_ble_eq_true rfl) ?_
  intro p e s m args below meth c ls B hH hl
  obtain ⟨hx, hb, hr, hts, hown, hlk, hml, hK, hX⟩ := B
  replace hl : lv_has ls 7 [(0, .ref (ga G c0)), (1, .int x1), (2, .int x2), (3, .int x3)] := hl
  have hB : ∀ w ∈ BIG, w.before args s = true := fun w h9 => hts w (List.mem_cons_of_mem _ h9)
  clear hts
  have L11 : ∀ (n11 : Nat) (c0 : Nat) (hc0 : isI G 500 c0) (x2 : Int32) (x3 : Int32) (x4 : Int32) (x5 : Int32) (x6 : Int32) (σ : Sg) (H : Heap) (locs : List Loc) (ls : Array Slot), Hx G (aA G s.heap.size) s σ H locs → lv_has ls 7 [(0, .ref (ga G c0)), (2, .int x2), (3, .int x3), (4, .int x4), (5, .int x5), (6, .int x6)] → wpX9_isNamed_L11 Q n11 c0 x2 x3 x4 x5 x6 σ → W p l e ({ frames := 0, cells := 0, slots := 0, locals := 0 }) s m args below meth c H locs 0 0 (Zi G Q below args s) (F0 m 11 ls []) := by
    intro n11
    induction n11 with
    | zero =>
      intro c0 hc0 x2 x3 x4 x5 x6 σ H locs ls hH hl h
      exact False.elim h
    | succ n11 ih11 =>
      have L59 : ∀ (c0 : Nat) (hc0 : isI G 500 c0) (x2 : Int32) (x3 : Int32) (x5 : Int32) (x6 : Int32) (z0 : Int32) (z1 : Int32) (σ : Sg) (H : Heap) (locs : List Loc) (ls : Array Slot), Hx G (aA G s.heap.size) s σ H locs → lv_has ls 7 [(0, .ref (ga G c0)), (2, .int x2), (3, .int x3), (5, .int x5), (6, .int x6)] → wpX9_isNamed_L59 Q (wpX9_isNamed_L11 Q n11) c0 x2 x3 x5 x6 z0 z1 σ → W p l e ({ frames := 0, cells := 0, slots := 0, locals := 0 }) s m args below meth c H locs 0 0 (Zi G Q below args s) (F0 m 59 ls [.int z0, .int z1]) := by
        intro c0 hc0 x2 x3 x5 x6 z0 z1 σ H locs ls hH hl h
        unfold wpX9_isNamed_L59 at h
        refine lv_iadd hx hb dX9_isNamed_59 ?_
        refine lv_topi (fun x4_8 ex4_8 => ?_)
        replace h := h x4_8 ex4_8
        refine lv_istore (lv' := [(4, .int x4_8), (0, .ref (ga G c0)), (2, .int x2), (3, .int x3), (5, .int x5), (6, .int x6)]) hx hb dX9_isNamed_60 hl (by decide) rfl (fun ls hl => ?_)
        obtain ⟨x6_9, ex6_9⟩ : ∃ y : Int32, y = x6 + 1 := ⟨_, rfl⟩
        replace h := h x6_9 ex6_9
        refine lv_iinc (v := x6_9) (lv' := [(6, .int x6_9), (4, .int x4_8), (0, .ref (ga G c0)), (2, .int x2), (3, .int x3), (5, .int x5)]) hx hb dX9_isNamed_62 hl (k := 5) rfl (by rw [ex6_9]; rfl) (by decide) rfl (fun ls hl => ?_)
        refine lv_goto (tgt := 11) hx hb dX9_isNamed_65 (by decide) ?_
        exact ih11 c0 hc0 x2 x3 x4_8 x5 x6_9 σ _ _ ls hH (lv_sub hl [2, 3, 4, 1, 5, 0] rfl) h
      have L41 : ∀ (c0 : Nat) (hc0 : isI G 500 c0) (x2 : Int32) (x3 : Int32) (x4 : Int32) (x6 : Int32) (z0 : Int32) (σ : Sg) (H : Heap) (locs : List Loc) (ls : Array Slot), Hx G (aA G s.heap.size) s σ H locs → lv_has ls 7 [(0, .ref (ga G c0)), (2, .int x2), (3, .int x3), (4, .int x4), (6, .int x6)] → wpX9_isNamed_L41 Q (wpX9_isNamed_L11 Q n11) c0 x2 x3 x4 x6 z0 σ → W p l e ({ frames := 0, cells := 0, slots := 0, locals := 0 }) s m args below meth c H locs 0 0 (Zi G Q below args s) (F0 m 41 ls [.int z0]) := by
        intro c0 hc0 x2 x3 x4 x6 z0 σ H locs ls hH hl h
        unfold wpX9_isNamed_L41 at h
        refine lv_istore (lv' := [(5, .int z0), (0, .ref (ga G c0)), (2, .int x2), (3, .int x3), (4, .int x4), (6, .int x6)]) hx hb dX9_isNamed_41 hl (by decide) rfl (fun ls hl => ?_)
        refine lv_iload hx hb dX9_isNamed_43 (lv_at hl 4 rfl) ?_
        refine lv_aload_n hx hb dX9_isNamed_45 rfl (lv_at hl 1 rfl) ?_
        refine lv_iload hx hb dX9_isNamed_46 (lv_at hl 4 rfl) ?_
        obtain ⟨hi6, h⟩ := h
        refine g_iald hx hb hK hH (c0 := c0) hc0 hi6 dX9_isNamed_48 ?_
        refine lv_bipush (v := 127) hx hb dX9_isNamed_49 (by decide) ?_
        refine lv_icmp_le (tgt := 58) hx hb dX9_isNamed_51 (by decide) (fun q7 => ?_) (fun q7 => ?_)
        · replace h := h.1 q7
          refine lv_iconst (v := 1) hx hb dX9_isNamed_58 (by decide) ?_
          exact L59 c0 hc0 x2 x3 z0 x6 1 x4 σ _ _ ls hH (lv_sub hl [1, 2, 3, 0, 5] rfl) h
        · replace h := h.2 q7
          refine lv_iconst (v := 3) hx hb dX9_isNamed_54 (by decide) ?_
          refine lv_goto (tgt := 59) hx hb dX9_isNamed_55 (by decide) ?_
          exact L59 c0 hc0 x2 x3 z0 x6 3 x4 σ _ _ ls hH (lv_sub hl [1, 2, 3, 0, 5] rfl) h
      have L36 : ∀ (c0 : Nat) (hc0 : isI G 500 c0) (x2 : Int32) (x3 : Int32) (x4 : Int32) (x6 : Int32) (σ : Sg) (H : Heap) (locs : List Loc) (ls : Array Slot), Hx G (aA G s.heap.size) s σ H locs → lv_has ls 7 [(0, .ref (ga G c0)), (2, .int x2), (3, .int x3), (4, .int x4), (6, .int x6)] → wpX9_isNamed_L36 Q (wpX9_isNamed_L11 Q n11) c0 x2 x3 x4 x6 σ → W p l e ({ frames := 0, cells := 0, slots := 0, locals := 0 }) s m args below meth c H locs 0 0 (Zi G Q below args s) (F0 m 36 ls []) := by
        intro c0 hc0 x2 x3 x4 x6 σ H locs ls hH hl h
        unfold wpX9_isNamed_L36 at h
        refine lv_iconst (v := 1) hx hb dX9_isNamed_36 (by decide) ?_
        refine lv_goto (tgt := 41) hx hb dX9_isNamed_37 (by decide) ?_
        exact L41 c0 hc0 x2 x3 x4 x6 1 σ _ _ ls hH (lv_sub hl [0, 1, 2, 3, 4] rfl) h
      intro c0 hc0 x2 x3 x4 x5 x6 σ H locs ls hH hl h
      unfold wpX9_isNamed_L11 at h
      refine lv_iload hx hb dX9_isNamed_11 (lv_at hl 5 rfl) ?_
      refine lv_iload_n hx hb dX9_isNamed_13 rfl (lv_at hl 1 rfl) ?_
      refine lv_icmp_ge (tgt := 68) hx hb dX9_isNamed_14 (by decide) (fun q2 => ?_) (fun q2 => ?_)
      · replace h := h.1 q2
        refine lv_iload hx hb dX9_isNamed_68 (lv_at hl 4 rfl) ?_
        exact g_zret hx hb hr hK hlk h.1 h.2 hH dX9_isNamed_70
      · replace h := h.2 q2
        refine lv_iload hx hb dX9_isNamed_17 (lv_at hl 4 rfl) ?_
        refine lv_if_ne (tgt := 36) hx hb dX9_isNamed_19 (by decide) (fun q3 => ?_) (fun q3 => ?_)
        · replace h := h.1 q3
          exact L36 c0 hc0 x2 x3 x4 x6 σ _ _ ls hH (lv_sub hl [0, 1, 2, 3, 5] rfl) h
        · replace h := h.2 q3
          refine lv_aload_n hx hb dX9_isNamed_22 rfl (lv_at hl 0 rfl) ?_
          refine lv_iload hx hb dX9_isNamed_23 (lv_at hl 3 rfl) ?_
          obtain ⟨hi4, h⟩ := h
          refine g_iald hx hb hK hH (c0 := c0) hc0 hi4 dX9_isNamed_25 ?_
          refine lv_bipush (v := 63) hx hb dX9_isNamed_26 (by decide) ?_
          refine lv_iand hx hb dX9_isNamed_28 ?_
          refine lv_iload_n hx hb dX9_isNamed_29 rfl (lv_at hl 2 rfl) ?_
          refine lv_bipush (v := 63) hx hb dX9_isNamed_30 (by decide) ?_
          refine lv_iand hx hb dX9_isNamed_32 ?_
          refine lv_icmp_ne (tgt := 40) hx hb dX9_isNamed_33 (by decide) (fun q5 => ?_) (fun q5 => ?_)
          · replace h := h.1 q5
            refine lv_iconst (v := 0) hx hb dX9_isNamed_40 (by decide) ?_
            exact L41 c0 hc0 x2 x3 x4 x6 0 σ _ _ ls hH (lv_sub hl [0, 1, 2, 3, 5] rfl) h
          · replace h := h.2 q5
            exact L36 c0 hc0 x2 x3 x4 x6 σ _ _ ls hH (lv_sub hl [0, 1, 2, 3, 5] rfl) h
  unfold wpX9_isNamed at h
  refine lv_iload_n hx hb dX9_isNamed_0 rfl (lv_at hl 1 rfl) ?_
  refine lv_iconst (v := 2) hx hb dX9_isNamed_1 (by decide) ?_
  refine lv_iadd hx hb dX9_isNamed_2 ?_
  refine lv_topi (fun x4_1 ex4_1 => ?_)
  replace h := h x4_1 ex4_1
  refine lv_istore (lv' := [(4, .int x4_1), (0, .ref (ga G c0)), (1, .int x1), (2, .int x2), (3, .int x3)]) hx hb dX9_isNamed_3 hl (by decide) rfl (fun ls hl => ?_)
  refine lv_iconst (v := 0) hx hb dX9_isNamed_5 (by decide) ?_
  refine lv_istore (lv' := [(5, .int 0), (4, .int x4_1), (0, .ref (ga G c0)), (1, .int x1), (2, .int x2), (3, .int x3)]) hx hb dX9_isNamed_6 hl (by decide) rfl (fun ls hl => ?_)
  refine lv_iconst (v := 0) hx hb dX9_isNamed_8 (by decide) ?_
  refine lv_istore (lv' := [(6, .int 0), (5, .int 0), (4, .int x4_1), (0, .ref (ga G c0)), (1, .int x1), (2, .int x2), (3, .int x3)]) hx hb dX9_isNamed_9 hl (by decide) rfl (fun ls hl => ?_)
  obtain ⟨nn, h⟩ := h
  exact L11 nn c0 hc0 x2 x3 x4_1 0 0 σ _ _ ls hH (lv_sub hl [3, 5, 6, 2, 1, 0] rfl) h
def wpX9_confirmPiece_L144 (Q : Sg → Prop) (K30 : Int32 → Int32 → Int32 → Sg → Prop) (x1 : Int32) (x3 : Int32) (x4 : Int32) (σ : Sg) : Prop := ∀ x4_21 : Int32, x4_21 = x4 + 1 → K30 x1 x3 x4_21 σ
def wpX9_confirmPiece_L30 (Q : Sg → Prop) : Nat → Int32 → Int32 → Int32 → Sg → Prop
  | 0, _, _, _, _ => False
  | n + 1, x1, x3, x4, σ => (vp_in x3 96 ∧ (((σ 25 x3.toNatClampNeg) ≤ x4 → Q σ) ∧ (¬ ((σ 25 x3.toNatClampNeg) ≤ x4) → (vp_in ((240 * x3) + x4) 23040 ∧ ∀ σ7 : Sg, σ7 = up2 σ 32 (((240 * x3) + x4).toNatClampNeg) 0 → (vp_in ((240 * x3) + x4) 23040 ∧ ∀ x5_9 : Int32, x5_9 = σ7 28 ((240 * x3) + x4).toNatClampNeg → ((¬ x5_9 = (-1) → ∀ x6_11 : Int32, x6_11 = (32 * x1) + (x5_9 &&& 31) → (vp_in x6_11 192 ∧ (((σ7 15 x6_11.toNatClampNeg) = 0 → wpX9_confirmPiece_L144 Q (wpX9_confirmPiece_L30 Q n) x1 x3 x4 σ7) ∧ (¬ ((σ7 15 x6_11.toNatClampNeg) = 0) → (vp_in x6_11 192 ∧ (((σ7 17 x6_11.toNatClampNeg) = x5_9 → (vp_in x6_11 192 ∧ (vp_in x6_11 192 ∧ ∀ σ17 : Sg, σ17 = up2 σ7 18 x6_11.toNatClampNeg ((σ7 18 x6_11.toNatClampNeg) - 1) → (vp_in x6_11 192 ∧ ((¬ (σ17 18 x6_11.toNatClampNeg) = 0 → wpX9_confirmPiece_L144 Q (wpX9_confirmPiece_L30 Q n) x1 x3 x4 σ17) ∧ ((σ17 18 x6_11.toNatClampNeg) = 0 → wpX9_confirm x1 x5_9 σ17 (fun σ20 => wpX9_confirmPiece_L144 Q (wpX9_confirmPiece_L30 Q n) x1 x3 x4 σ20))))))) ∧ (¬ ((σ7 17 x6_11.toNatClampNeg) = x5_9) → wpX9_confirmPiece_L144 Q (wpX9_confirmPiece_L30 Q n) x1 x3 x4 σ7))))))) ∧ (x5_9 = (-1) → wpX9_confirmPiece_L144 Q (wpX9_confirmPiece_L30 Q n) x1 x3 x4 σ7)))))))
def wpX9_confirmPiece (x1 : Int32) (x2 : Int32) (σ : Sg) (Q : Sg → Prop) : Prop := ∀ x3_1 : Int32, x3_1 = (16 * x1) + (x2 &&& 15) → (vp_in x3_1 96 ∧ (((σ 29 x3_1.toNatClampNeg) = 0 → (vp_in x3_1 96 ∧ ∀ σ4 : Sg, σ4 = up2 σ 29 x3_1.toNatClampNeg 1 → ∃ nn, wpX9_confirmPiece_L30 Q nn x1 x3_1 0 σ4)) ∧ (¬ ((σ 29 x3_1.toNatClampNeg) = 0) → Q σ)))
set_option maxHeartbeats 8000000 in
set_option maxRecDepth 100000 in
theorem tX9_confirmPiece {l : Launch} {G : GG} {x1 : Int32} {x2 : Int32} {σ : Sg} {Q : Sg → Prop} (h0 : isModel G) (h : wpX9_confirmPiece x1 x2 σ Q) : Kv l G yX9_confirmPiece (wB yX9_confirmPiece prog_11_method_32_code 7 none) ({ frames := 2, cells := 0, slots := 0, locals := 50 }) [.ref (ga G 0), .int x1, .int x2] σ Q := by
  refine K_of (cc := cX9_confirmPiece) (maxL := 7) (ret := none) (by decide) rfl (Nat.le_of_ble_eq_true rfl) ?_
  intro p e s m args below meth c ls B hH hl
  obtain ⟨hx, hb, hr, hts, hown, hlk, hml, hK, hX⟩ := B
  replace hl : lv_has ls 7 [(0, .ref (ga G 0)), (1, .int x1), (2, .int x2)] := hl
  have hB : ∀ w ∈ BIG, w.before args s = true := fun w h9 => hts w (List.mem_cons_of_mem _ h9)
  clear hts
  have k53 := hB _ bw4_134
  have k59 := hB _ bw4_136
  have k62 := hB _ bw4_137
  have k83 := hB _ bw4_144
  have k92 := hB _ bw4_147
  have k95 := hB _ bw4_148
  have k104 := hB _ bw4_151
  have L30 : ∀ (n30 : Nat) (x1 : Int32) (x3 : Int32) (x4 : Int32) (σ : Sg) (H : Heap) (locs : List Loc) (ls : Array Slot), Hx G (aA G s.heap.size) s σ H locs → lv_has ls 7 [(0, .ref (ga G 0)), (1, .int x1), (3, .int x3), (4, .int x4)] → wpX9_confirmPiece_L30 Q n30 x1 x3 x4 σ → W p l e ({ frames := 2, cells := 0, slots := 0, locals := 50 }) s m args below meth c H locs 0 0 (Zv G Q below args s) (F0 m 30 ls []) := by
    intro n30
    induction n30 with
    | zero =>
      intro x1 x3 x4 σ H locs ls hH hl h
      exact False.elim h
    | succ n30 ih30 =>
      have L144 : ∀ (x1 : Int32) (x3 : Int32) (x4 : Int32) (σ : Sg) (H : Heap) (locs : List Loc) (ls : Array Slot), Hx G (aA G s.heap.size) s σ H locs → lv_has ls 7 [(0, .ref (ga G 0)), (1, .int x1), (3, .int x3), (4, .int x4)] → wpX9_confirmPiece_L144 Q (wpX9_confirmPiece_L30 Q n30) x1 x3 x4 σ → W p l e ({ frames := 2, cells := 0, slots := 0, locals := 50 }) s m args below meth c H locs 0 0 (Zv G Q below args s) (F0 m 144 ls []) := by
        intro x1 x3 x4 σ H locs ls hH hl h
        unfold wpX9_confirmPiece_L144 at h
        obtain ⟨x4_21, ex4_21⟩ : ∃ y : Int32, y = x4 + 1 := ⟨_, rfl⟩
        replace h := h x4_21 ex4_21
        refine lv_iinc (v := x4_21) (lv' := [(4, .int x4_21), (0, .ref (ga G 0)), (1, .int x1), (3, .int x3)]) hx hb dX9_confirmPiece_144 hl (k := 3) rfl (by rw [ex4_21]; rfl) (by decide) rfl (fun ls hl => ?_)
        refine lv_goto (tgt := 30) hx hb dX9_confirmPiece_147 (by decide) ?_
        exact ih30 x1 x3 x4_21 σ _ _ ls hH (lv_sub hl [1, 2, 3, 0] rfl) h
      intro x1 x3 x4 σ H locs ls hH hl h
      unfold wpX9_confirmPiece_L30 at h
      refine lv_iload hx hb dX9_confirmPiece_30 (lv_at hl 3 rfl) ?_
      refine lv_aload_n hx hb dX9_confirmPiece_32 rfl (lv_at hl 0 rfl) ?_
      refine g_getr hx hb hB inB9 hown hK hH (c0 := 0) h0.1 rfl 34 (by decide) k83 rfl (c1 := 25) rfl dX9_confirmPiece_33 ?_
      refine lv_iload_n hx hb dX9_confirmPiece_36 rfl (lv_at hl 2 rfl) ?_
      obtain ⟨hi5, h⟩ := h
      refine g_iald hx hb hK hH (c0 := 25) (mA25 h0) hi5 dX9_confirmPiece_37 ?_
      refine lv_icmp_ge (tgt := 150) hx hb dX9_confirmPiece_38 (by decide) (fun q6 => ?_) (fun q6 => ?_)
      · replace h := h.1 q6
        exact g_vret hx hb hr hK hlk h hH dX9_confirmPiece_150
      · replace h := h.2 q6
        refine lv_aload_n hx hb dX9_confirmPiece_41 rfl (lv_at hl 0 rfl) ?_
        refine g_getr hx hb hB inB9 hown hK hH (c0 := 0) h0.1 rfl 41 (by decide) k104 rfl (c1 := 32) rfl dX9_confirmPiece_42 ?_
        refine lv_sipush (v := 240) hx hb dX9_confirmPiece_45 (by decide) ?_
        refine lv_iload_n hx hb dX9_confirmPiece_48 rfl (lv_at hl 2 rfl) ?_
        refine lv_imul hx hb dX9_confirmPiece_49 ?_
        refine lv_iload hx hb dX9_confirmPiece_50 (lv_at hl 3 rfl) ?_
        refine lv_iadd hx hb dX9_confirmPiece_52 ?_
        refine lv_iconst (v := 0) hx hb dX9_confirmPiece_53 (by decide) ?_
        obtain ⟨hi7, h⟩ := h
        refine g_zast hx hb hK hH (c0 := 32) (i := (240 * x3) + x4) (mA32 h0) vz0 hi7 dX9_confirmPiece_54 (fun σ7 eσ7 H locs hH => ?_)
        replace h := h σ7 eσ7
        refine lv_aload_n hx hb dX9_confirmPiece_55 rfl (lv_at hl 0 rfl) ?_
        refine g_getr hx hb hB inB9 hown hK hH (c0 := 0) h0.1 rfl 37 (by decide) k92 rfl (c1 := 28) rfl dX9_confirmPiece_56 ?_
        refine lv_sipush (v := 240) hx hb dX9_confirmPiece_59 (by decide) ?_
        refine lv_iload_n hx hb dX9_confirmPiece_62 rfl (lv_at hl 2 rfl) ?_
        refine lv_imul hx hb dX9_confirmPiece_63 ?_
        refine lv_iload hx hb dX9_confirmPiece_64 (lv_at hl 3 rfl) ?_
        refine lv_iadd hx hb dX9_confirmPiece_66 ?_
        obtain ⟨hi8, h⟩ := h
        refine g_iald hx hb hK hH (c0 := 28) (mA28 h0) hi8 dX9_confirmPiece_67 ?_
        refine lv_topi (fun x5_9 ex5_9 => ?_)
        replace h := h x5_9 ex5_9
        refine lv_istore (lv' := [(5, .int x5_9), (0, .ref (ga G 0)), (1, .int x1), (3, .int x3), (4, .int x4)]) hx hb dX9_confirmPiece_68 hl (by decide) rfl (fun ls hl => ?_)
        refine lv_iload hx hb dX9_confirmPiece_70 (lv_at hl 0 rfl) ?_
        refine lv_iconst (v := (-1)) hx hb dX9_confirmPiece_72 (by decide) ?_
        refine lv_icmp_ne (tgt := 79) hx hb dX9_confirmPiece_73 (by decide) (fun q10 => ?_) (fun q10 => ?_)
        · replace h := h.1 q10
          refine lv_bipush (v := 32) hx hb dX9_confirmPiece_79 (by decide) ?_
          refine lv_iload_n hx hb dX9_confirmPiece_81 rfl (lv_at hl 2 rfl) ?_
          refine lv_imul hx hb dX9_confirmPiece_82 ?_
          refine lv_iload hx hb dX9_confirmPiece_83 (lv_at hl 0 rfl) ?_
          refine lv_bipush (v := 31) hx hb dX9_confirmPiece_85 (by decide) ?_
          refine lv_iand hx hb dX9_confirmPiece_87 ?_
          refine lv_iadd hx hb dX9_confirmPiece_88 ?_
          refine lv_topi (fun x6_11 ex6_11 => ?_)
          replace h := h x6_11 ex6_11
          refine lv_istore (lv' := [(6, .int x6_11), (5, .int x5_9), (0, .ref (ga G 0)), (1, .int x1), (3, .int x3), (4, .int x4)]) hx hb dX9_confirmPiece_89 hl (by decide) rfl (fun ls hl => ?_)
          refine lv_aload_n hx hb dX9_confirmPiece_91 rfl (lv_at hl 2 rfl) ?_
          refine g_getr hx hb hB inB9 hown hK hH (c0 := 0) h0.1 rfl 24 (by decide) k53 rfl (c1 := 15) rfl dX9_confirmPiece_92 ?_
          refine lv_iload hx hb dX9_confirmPiece_95 (lv_at hl 0 rfl) ?_
          obtain ⟨hi12, h⟩ := h
          refine g_zald hx hb hK hH (c0 := 15) (mA15 h0) hi12 dX9_confirmPiece_97 ?_
          refine lv_if_eq (tgt := 144) hx hb dX9_confirmPiece_98 (by decide) (fun q13 => ?_) (fun q13 => ?_)
          · replace h := h.1 q13
            exact L144 x1 x3 x4 σ7 _ _ ls hH (lv_sub hl [2, 3, 4, 5] rfl) h
          · replace h := h.2 q13
            refine lv_aload_n hx hb dX9_confirmPiece_101 rfl (lv_at hl 2 rfl) ?_
            refine g_getr hx hb hB inB9 hown hK hH (c0 := 0) h0.1 rfl 26 (by decide) k59 rfl (c1 := 17) rfl dX9_confirmPiece_102 ?_
            refine lv_iload hx hb dX9_confirmPiece_105 (lv_at hl 0 rfl) ?_
            obtain ⟨hi14, h⟩ := h
            refine g_iald hx hb hK hH (c0 := 17) (mA17 h0) hi14 dX9_confirmPiece_107 ?_
            refine lv_iload hx hb dX9_confirmPiece_108 (lv_at hl 1 rfl) ?_
            refine lv_icmp_eq (tgt := 116) hx hb dX9_confirmPiece_110 (by decide) (fun q15 => ?_) (fun q15 => ?_)
            · replace h := h.1 q15
              refine lv_aload_n hx hb dX9_confirmPiece_116 rfl (lv_at hl 2 rfl) ?_
              refine g_getr hx hb hB inB9 hown hK hH (c0 := 0) h0.1 rfl 27 (by decide) k62 rfl (c1 := 18) rfl dX9_confirmPiece_117 ?_
              refine lv_iload hx hb dX9_confirmPiece_120 (lv_at hl 0 rfl) ?_
              refine lv_dup2_11 hx hb dX9_confirmPiece_122 rfl rfl ?_
              obtain ⟨hi16, h⟩ := h
              refine g_iald hx hb hK hH (c0 := 18) (mA18 h0) hi16 dX9_confirmPiece_123 ?_
              refine lv_iconst (v := 1) hx hb dX9_confirmPiece_124 (by decide) ?_
              refine lv_isub hx hb dX9_confirmPiece_125 ?_
              obtain ⟨hi17, h⟩ := h
              refine g_iast hx hb hK hH (c0 := 18) (i := x6_11) (mA18 h0) hi17 dX9_confirmPiece_126 (fun σ17 eσ17 H locs hH => ?_)
              replace h := h σ17 eσ17
              refine lv_aload_n hx hb dX9_confirmPiece_127 rfl (lv_at hl 2 rfl) ?_
              refine g_getr hx hb hB inB9 hown hK hH (c0 := 0) h0.1 rfl 27 (by decide) k62 rfl (c1 := 18) rfl dX9_confirmPiece_128 ?_
              refine lv_iload hx hb dX9_confirmPiece_131 (lv_at hl 0 rfl) ?_
              obtain ⟨hi18, h⟩ := h
              refine g_iald hx hb hK hH (c0 := 18) (mA18 h0) hi18 dX9_confirmPiece_133 ?_
              refine lv_if_ne (tgt := 144) hx hb dX9_confirmPiece_134 (by decide) (fun q19 => ?_) (fun q19 => ?_)
              · replace h := h.1 q19
                exact L144 x1 x3 x4 σ17 _ _ ls hH (lv_sub hl [2, 3, 4, 5] rfl) h
              · replace h := h.2 q19
                refine lv_aload_n hx hb dX9_confirmPiece_137 rfl (lv_at hl 2 rfl) ?_
                refine lv_iload_n hx hb dX9_confirmPiece_138 rfl (lv_at hl 3 rfl) ?_
                refine lv_iload hx hb dX9_confirmPiece_139 (lv_at hl 1 rfl) ?_
                refine g_callVv (As := [.int x1, .int x5_9]) (rest := []) ⟨hx, hb, hml, hown, hB⟩ hK hX aA_hA hH (c0 := 0) (tX9_confirm h0 h) (cwV 2 hB gVX9_330 rfl rfl rfl (by decide +kernel) ⟨Nat.le_of_ble_eq_true rfl, Nat.le_of_ble_eq_true rfl⟩) h0.1 rfl rfl hl.1 rfl (lv_room (Nat.le_of_ble_eq_true rfl)) ⟨Nat.zero_le _, Nat.zero_le _⟩ dX9_confirmPiece_141 (fun σ20 H locs h hH => ?_)
                exact L144 x1 x3 x4 σ20 _ _ ls hH (lv_sub hl [2, 3, 4, 5] rfl) h
            · replace h := h.2 q15
              refine lv_goto (tgt := 144) hx hb dX9_confirmPiece_113 (by decide) ?_
              exact L144 x1 x3 x4 σ7 _ _ ls hH (lv_sub hl [2, 3, 4, 5] rfl) h
        · replace h := h.2 q10
          refine lv_goto (tgt := 144) hx hb dX9_confirmPiece_76 (by decide) ?_
          exact L144 x1 x3 x4 σ7 _ _ ls hH (lv_sub hl [1, 2, 3, 4] rfl) h
  unfold wpX9_confirmPiece at h
  refine lv_bipush (v := 16) hx hb dX9_confirmPiece_0 (by decide) ?_
  refine lv_iload_n hx hb dX9_confirmPiece_2 rfl (lv_at hl 1 rfl) ?_
  refine lv_imul hx hb dX9_confirmPiece_3 ?_
  refine lv_iload_n hx hb dX9_confirmPiece_4 rfl (lv_at hl 2 rfl) ?_
  refine lv_bipush (v := 15) hx hb dX9_confirmPiece_5 (by decide) ?_
  refine lv_iand hx hb dX9_confirmPiece_7 ?_
  refine lv_iadd hx hb dX9_confirmPiece_8 ?_
  refine lv_topi (fun x3_1 ex3_1 => ?_)
  replace h := h x3_1 ex3_1
  refine lv_istore_n (lv' := [(3, .int x3_1), (0, .ref (ga G 0)), (1, .int x1), (2, .int x2)]) hx hb dX9_confirmPiece_9 rfl hl (by decide) rfl (fun ls hl => ?_)
  refine lv_aload_n hx hb dX9_confirmPiece_10 rfl (lv_at hl 1 rfl) ?_
  refine g_getr hx hb hB inB9 hown hK hH (c0 := 0) h0.1 rfl 38 (by decide) k95 rfl (c1 := 29) rfl dX9_confirmPiece_11 ?_
  refine lv_iload_n hx hb dX9_confirmPiece_14 rfl (lv_at hl 0 rfl) ?_
  obtain ⟨hi2, h⟩ := h
  refine g_zald hx hb hK hH (c0 := 29) (mA29 h0) hi2 dX9_confirmPiece_15 ?_
  refine lv_if_eq (tgt := 20) hx hb dX9_confirmPiece_16 (by decide) (fun q3 => ?_) (fun q3 => ?_)
  · replace h := h.1 q3
    refine lv_aload_n hx hb dX9_confirmPiece_20 rfl (lv_at hl 1 rfl) ?_
    refine g_getr hx hb hB inB9 hown hK hH (c0 := 0) h0.1 rfl 38 (by decide) k95 rfl (c1 := 29) rfl dX9_confirmPiece_21 ?_
    refine lv_iload_n hx hb dX9_confirmPiece_24 rfl (lv_at hl 0 rfl) ?_
    refine lv_iconst (v := 1) hx hb dX9_confirmPiece_25 (by decide) ?_
    obtain ⟨hi4, h⟩ := h
    refine g_zast hx hb hK hH (c0 := 29) (i := x3_1) (mA29 h0) vz1 hi4 dX9_confirmPiece_26 (fun σ4 eσ4 H locs hH => ?_)
    replace h := h σ4 eσ4
    refine lv_iconst (v := 0) hx hb dX9_confirmPiece_27 (by decide) ?_
    refine lv_istore (lv' := [(4, .int 0), (3, .int x3_1), (0, .ref (ga G 0)), (1, .int x1), (2, .int x2)]) hx hb dX9_confirmPiece_28 hl (by decide) rfl (fun ls hl => ?_)
    obtain ⟨nn, h⟩ := h
    exact L30 nn x1 x3_1 0 σ4 _ _ ls hH (lv_sub hl [2, 3, 1, 0] rfl) h
  · replace h := h.2 q3
    exact g_vret hx hb hr hK hlk h hH dX9_confirmPiece_19
def wpX9_status_L270 (Q : Sg → Prop) (x1 : Int32) (x6 : Int32) (σ : Sg) : Prop := (vp_in x1 6 ∧ ((x6 ≤ (σ 6 x1.toNatClampNeg) → Q σ) ∧ (¬ (x6 ≤ (σ 6 x1.toNatClampNeg)) → (vp_in x1 6 ∧ ∀ σ38 : Sg, σ38 = up2 σ 5 x1.toNatClampNeg 0 → Q σ38))))
def wpX9_status_L220 (Q : Sg → Prop) : Nat → Int32 → Int32 → Sg → Prop
  | 0, _, _, _ => False
  | n + 1, x1, x6, σ => (vp_in x1 6 ∧ (vp_in x1 6 ∧ (((σ 4 x1.toNatClampNeg) ≤ (σ 3 x1.toNatClampNeg) → wpX9_status_L270 Q x1 x6 σ) ∧ (¬ ((σ 4 x1.toNatClampNeg) ≤ (σ 3 x1.toNatClampNeg)) → (vp_in x1 6 ∧ (vp_in ((16 * x1) + ((σ 3 x1.toNatClampNeg) &&& 15)) 96 ∧ (((σ 29 ((16 * x1) + ((σ 3 x1.toNatClampNeg) &&& 15)).toNatClampNeg) = 0 → wpX9_status_L270 Q x1 x6 σ) ∧ (¬ ((σ 29 ((16 * x1) + ((σ 3 x1.toNatClampNeg) &&& 15)).toNatClampNeg) = 0) → (vp_in x1 6 ∧ (vp_in x1 6 ∧ ∀ σ27 : Sg, σ27 = up2 σ 3 x1.toNatClampNeg ((σ 3 x1.toNatClampNeg) + 1) → (wpX9_status_L220 Q n) x1 x6 σ27))))))))))
def wpX9_status_L211 (Q : Sg → Prop) (K94 : Int32 → Nat → Int32 → Int32 → Int32 → Int32 → Int32 → Sg → Prop) (x1 : Int32) (c2 : Nat) (x4 : Int32) (x5 : Int32) (x6 : Int32) (x8 : Int32) (z0 : Int32) (z1 : Int32) (σ : Sg) : Prop := ∀ x7_42 : Int32, x7_42 = z1 + z0 → ∀ x8_43 : Int32, x8_43 = x8 + 1 → K94 x1 c2 x4 x5 x6 x7_42 x8_43 σ
def wpX9_status_L199 (Q : Sg → Prop) (K94 : Int32 → Nat → Int32 → Int32 → Int32 → Int32 → Int32 → Sg → Prop) (x1 : Int32) (c2 : Nat) (x4 : Int32) (x5 : Int32) (x6 : Int32) (x7 : Int32) (x8 : Int32) (x9 : Int32) (σ : Sg) : Prop := ((x9 = 0 → wpX9_status_L211 Q K94 x1 c2 x4 x5 x6 x8 1 x7 σ) ∧ (¬ (x9 = 0) → wpX9_status_L211 Q K94 x1 c2 x4 x5 x6 x8 3 x7 σ))
def wpX9_status_L196 (Q : Sg → Prop) (K94 : Int32 → Nat → Int32 → Int32 → Int32 → Int32 → Int32 → Sg → Prop) (x1 : Int32) (c2 : Nat) (x4 : Int32) (x5 : Int32) (x6 : Int32) (x7 : Int32) (x8 : Int32) (x9 : Int32) (z0 : Int32) (z1 : Int32) (z2 : Int32) (z3 : Int32) (σ : Sg) : Prop := wpX9_comesAgain z3 z2 z1 z0 σ (fun σ44 => wpX9_status_L199 Q K94 x1 c2 x4 x5 x6 x7 x8 x9 σ44)
def wpX9_status_L179 (Q : Sg → Prop) (K94 : Int32 → Nat → Int32 → Int32 → Int32 → Int32 → Int32 → Sg → Prop) (x1 : Int32) (c2 : Nat) (x4 : Int32) (x5 : Int32) (x6 : Int32) (x7 : Int32) (x8 : Int32) (x9 : Int32) (z0 : Int32) (z1 : Int32) (z2 : Int32) (σ : Sg) : Prop := ((x9 = 0 → wpX9_status_L196 Q K94 x1 c2 x4 x5 x6 x7 x8 x9 240 z0 z1 z2 σ) ∧ (¬ (x9 = 0) → (vp_in (x7 + 2) 500 ∧ wpX9_status_L196 Q K94 x1 c2 x4 x5 x6 x7 x8 x9 (σ c2 (x7 + 2).toNatClampNeg) z0 z1 z2 σ)))
def wpX9_status_L115 (Q : Sg → Prop) (K94 : Int32 → Nat → Int32 → Int32 → Int32 → Int32 → Int32 → Sg → Prop) (x1 : Int32) (c2 : Nat) (x4 : Int32) (x5 : Int32) (x6 : Int32) (x7 : Int32) (x8 : Int32) (z0 : Int32) (σ : Sg) : Prop := (vp_in x7 500 ∧ wpX9_meant x5 ((σ c2 x7.toNatClampNeg) &&& 63) σ (fun r29 σ29 => (vp_in x1 6 ∧ (((σ29 4 x1.toNatClampNeg) ≤ r29 → wpX9_status_L199 Q K94 x1 c2 x4 x5 x6 x7 x8 z0 σ29) ∧ (¬ ((σ29 4 x1.toNatClampNeg) ≤ r29) → (vp_in ((16 * x1) + (r29 &&& 15)) 96 ∧ ((¬ (σ29 29 ((16 * x1) + (r29 &&& 15)).toNatClampNeg) = 0 → wpX9_status_L199 Q K94 x1 c2 x4 x5 x6 x7 x8 z0 σ29) ∧ ((σ29 29 ((16 * x1) + (r29 &&& 15)).toNatClampNeg) = 0 → ((z0 = 0 → wpX9_status_L179 Q K94 x1 c2 x4 x5 x6 x7 x8 z0 0 r29 x1 σ29) ∧ (¬ (z0 = 0) → (vp_in (x7 + 1) 500 ∧ wpX9_status_L179 Q K94 x1 c2 x4 x5 x6 x7 x8 z0 (σ29 c2 (x7 + 1).toNatClampNeg) r29 x1 σ29)))))))))))
def wpX9_status_L94 (Q : Sg → Prop) : Nat → Int32 → Nat → Int32 → Int32 → Int32 → Int32 → Int32 → Sg → Prop
  | 0, _, _, _, _, _, _, _, _ => False
  | n + 1, x1, c2, x4, x5, x6, x7, x8, σ => ((x4 ≤ x8 → ∃ nn, wpX9_status_L220 Q nn x1 x6 σ) ∧ (¬ (x4 ≤ x8) → (vp_in x7 500 ∧ (((σ c2 x7.toNatClampNeg) ≤ 127 → wpX9_status_L115 Q (wpX9_status_L94 Q n) x1 c2 x4 x5 x6 x7 x8 0 σ) ∧ (¬ ((σ c2 x7.toNatClampNeg) ≤ 127) → wpX9_status_L115 Q (wpX9_status_L94 Q n) x1 c2 x4 x5 x6 x7 x8 1 σ)))))
def wpX9_status_L80 (Q : Sg → Prop) (K54 : Int32 → Nat → Int32 → Int32 → Int32 → Int32 → Int32 → Sg → Prop) (x1 : Int32) (c2 : Nat) (x3 : Int32) (x4 : Int32) (x5 : Int32) (x6 : Int32) (x7 : Int32) (σ : Sg) : Prop := ∀ x7_19 : Int32, x7_19 = x7 + 1 → K54 x1 c2 x3 x4 x5 x6 x7_19 σ
def wpX9_status_L54 (Q : Sg → Prop) : Nat → Int32 → Nat → Int32 → Int32 → Int32 → Int32 → Int32 → Sg → Prop
  | 0, _, _, _, _, _, _, _, _ => False
  | n + 1, x1, c2, x3, x4, x5, x6, x7, σ => ((x6 ≤ x7 → ∀ x7_12 : Int32, x7_12 = x3 + 2 → ∃ nn, wpX9_status_L94 Q nn x1 c2 x4 x5 x6 x7_12 0 σ) ∧ (¬ (x6 ≤ x7) → wpX9_isNamed c2 x3 x4 x7 σ (fun r13 σ13 => ((¬ r13 = 0 → wpX9_status_L80 Q (wpX9_status_L54 Q n) x1 c2 x3 x4 x5 x6 x7 σ13) ∧ (r13 = 0 → wpX9_confirmPiece x1 x7 σ13 (fun σ15 => wpX9_status_L80 Q (wpX9_status_L54 Q n) x1 c2 x3 x4 x5 x6 x7 σ15))))))
def wpX9_status (x1 : Int32) (c2 : Nat) (x3 : Int32) (σ : Sg) (Q : Sg → Prop) : Prop := (vp_in x1 6 ∧ (vp_in x1 6 ∧ ∀ σ2 : Sg, σ2 = up2 σ 11 x1.toNatClampNeg ((σ 11 x1.toNatClampNeg) + 1) → (vp_in x3 500 ∧ ∀ x4_4 : Int32, x4_4 = σ2 c2 x3.toNatClampNeg → (vp_in x1 6 ∧ ∀ x5_6 : Int32, x5_6 = σ2 3 x1.toNatClampNeg → (vp_in (x3 + 1) 500 ∧ wpX9_meant x5_6 ((σ2 c2 (x3 + 1).toNatClampNeg) &&& 63) σ2 (fun r8 σ8 => (vp_in x1 6 ∧ ((r8 ≤ (σ8 4 x1.toNatClampNeg) → ∃ nn, wpX9_status_L54 Q nn x1 c2 x3 x4_4 x5_6 r8 x5_6 σ8) ∧ (¬ (r8 ≤ (σ8 4 x1.toNatClampNeg)) → Q σ8)))))))))
set_option maxHeartbeats 8000000 in
set_option maxRecDepth 100000 in
theorem tX9_status {l : Launch} {G : GG} {x1 : Int32} {c2 : Nat} {x3 : Int32} {σ : Sg} {Q : Sg → Prop} (h0 : isModel G) (hc2 : isI G 500 c2) (h : wpX9_status x1 c2 x3 σ Q) : Kv l G yX9_status (wB yX9_status prog_11_method_30_code 11 none) ({ frames := 3, cells := 0, slots := 0, locals := 76 }) [.ref (ga G 0), .int x1, .ref (ga G c2), .int x3] σ Q := by
  refine K_of (cc := cX9_status) (maxL := 11) (ret := none) (by decide) rfl (Nat.le_of_ble_eq_true rfl) ?_
  intro p e s m args below meth c ls B hH hl
  obtain ⟨hx, hb, hr, hts, hown, hlk, hml, hK, hX⟩ := B
  replace hl : lv_has ls 11 [(0, .ref (ga G 0)), (1, .int x1), (2, .ref (ga G c2)), (3, .int x3)] := hl
  have hB : ∀ w ∈ BIG, w.before args s = true := fun w h9 => hts w (List.mem_cons_of_mem _ h9)
  clear hts
  have k16 := hB _ bw4_122
  have k19 := hB _ bw4_123
  have k22 := hB _ bw4_124
  have k25 := hB _ bw4_125
  have k40 := hB _ bw4_130
  have k95 := hB _ bw4_148
  have L270 : ∀ (x1 : Int32) (x6 : Int32) (σ : Sg) (H : Heap) (locs : List Loc) (ls : Array Slot), Hx G (aA G s.heap.size) s σ H locs → lv_has ls 11 [(0, .ref (ga G 0)), (1, .int x1), (6, .int x6)] → wpX9_status_L270 Q x1 x6 σ → W p l e ({ frames := 3, cells := 0, slots := 0, locals := 76 }) s m args below meth c H locs 0 0 (Zv G Q below args s) (F0 m 270 ls []) := by
    intro x1 x6 σ H locs ls hH hl h
    unfold wpX9_status_L270 at h
    refine lv_aload_n hx hb dX9_status_270 rfl (lv_at hl 0 rfl) ?_
    refine g_getr hx hb hB inB9 hown hK hH (c0 := 0) h0.1 rfl 15 (by decide) k25 rfl (c1 := 6) rfl dX9_status_271 ?_
    refine lv_iload_n hx hb dX9_status_274 rfl (lv_at hl 1 rfl) ?_
    obtain ⟨hi36, h⟩ := h
    refine g_iald hx hb hK hH (c0 := 6) (mA6 h0) hi36 dX9_status_275 ?_
    refine lv_iload hx hb dX9_status_276 (lv_at hl 2 rfl) ?_
    refine lv_icmp_ge (tgt := 288) hx hb dX9_status_278 (by decide) (fun q37 => ?_) (fun q37 => ?_)
    · replace h := h.1 q37
      exact g_vret hx hb hr hK hlk h hH dX9_status_288
    · replace h := h.2 q37
      refine lv_aload_n hx hb dX9_status_281 rfl (lv_at hl 0 rfl) ?_
      refine g_getr hx hb hB inB9 hown hK hH (c0 := 0) h0.1 rfl 14 (by decide) k22 rfl (c1 := 5) rfl dX9_status_282 ?_
      refine lv_iload_n hx hb dX9_status_285 rfl (lv_at hl 1 rfl) ?_
      refine lv_iconst (v := 0) hx hb dX9_status_286 (by decide) ?_
      obtain ⟨hi38, h⟩ := h
      refine g_iast hx hb hK hH (c0 := 5) (i := x1) (mA5 h0) hi38 dX9_status_287 (fun σ38 eσ38 H locs hH => ?_)
      replace h := h σ38 eσ38
      exact g_vret hx hb hr hK hlk h hH dX9_status_288
  have L220 : ∀ (n220 : Nat) (x1 : Int32) (x6 : Int32) (σ : Sg) (H : Heap) (locs : List Loc) (ls : Array Slot), Hx G (aA G s.heap.size) s σ H locs → lv_has ls 11 [(0, .ref (ga G 0)), (1, .int x1), (6, .int x6)] → wpX9_status_L220 Q n220 x1 x6 σ → W p l e ({ frames := 3, cells := 0, slots := 0, locals := 76 }) s m args below meth c H locs 0 0 (Zv G Q below args s) (F0 m 220 ls []) := by
    intro n220
    induction n220 with
    | zero =>
      intro x1 x6 σ H locs ls hH hl h
      exact False.elim h
    | succ n220 ih220 =>
      intro x1 x6 σ H locs ls hH hl h
      unfold wpX9_status_L220 at h
      refine lv_aload_n hx hb dX9_status_220 rfl (lv_at hl 0 rfl) ?_
      refine g_getr hx hb hB inB9 hown hK hH (c0 := 0) h0.1 rfl 12 (by decide) k16 rfl (c1 := 3) rfl dX9_status_221 ?_
      refine lv_iload_n hx hb dX9_status_224 rfl (lv_at hl 1 rfl) ?_
      obtain ⟨hi20, h⟩ := h
      refine g_iald hx hb hK hH (c0 := 3) (mA3 h0) hi20 dX9_status_225 ?_
      refine lv_aload_n hx hb dX9_status_226 rfl (lv_at hl 0 rfl) ?_
      refine g_getr hx hb hB inB9 hown hK hH (c0 := 0) h0.1 rfl 13 (by decide) k19 rfl (c1 := 4) rfl dX9_status_227 ?_
      refine lv_iload_n hx hb dX9_status_230 rfl (lv_at hl 1 rfl) ?_
      obtain ⟨hi21, h⟩ := h
      refine g_iald hx hb hK hH (c0 := 4) (mA4 h0) hi21 dX9_status_231 ?_
      refine lv_icmp_ge (tgt := 270) hx hb dX9_status_232 (by decide) (fun q22 => ?_) (fun q22 => ?_)
      · replace h := h.1 q22
        exact L270 x1 x6 σ _ _ ls hH (lv_sub hl [0, 1, 2] rfl) h
      · replace h := h.2 q22
        refine lv_aload_n hx hb dX9_status_235 rfl (lv_at hl 0 rfl) ?_
        refine g_getr hx hb hB inB9 hown hK hH (c0 := 0) h0.1 rfl 38 (by decide) k95 rfl (c1 := 29) rfl dX9_status_236 ?_
        refine lv_bipush (v := 16) hx hb dX9_status_239 (by decide) ?_
        refine lv_iload_n hx hb dX9_status_241 rfl (lv_at hl 1 rfl) ?_
        refine lv_imul hx hb dX9_status_242 ?_
        refine lv_aload_n hx hb dX9_status_243 rfl (lv_at hl 0 rfl) ?_
        refine g_getr hx hb hB inB9 hown hK hH (c0 := 0) h0.1 rfl 12 (by decide) k16 rfl (c1 := 3) rfl dX9_status_244 ?_
        refine lv_iload_n hx hb dX9_status_247 rfl (lv_at hl 1 rfl) ?_
        obtain ⟨hi23, h⟩ := h
        refine g_iald hx hb hK hH (c0 := 3) (mA3 h0) hi23 dX9_status_248 ?_
        refine lv_bipush (v := 15) hx hb dX9_status_249 (by decide) ?_
        refine lv_iand hx hb dX9_status_251 ?_
        refine lv_iadd hx hb dX9_status_252 ?_
        obtain ⟨hi24, h⟩ := h
        refine g_zald hx hb hK hH (c0 := 29) (mA29 h0) hi24 dX9_status_253 ?_
        refine lv_if_eq (tgt := 270) hx hb dX9_status_254 (by decide) (fun q25 => ?_) (fun q25 => ?_)
        · replace h := h.1 q25
          exact L270 x1 x6 σ _ _ ls hH (lv_sub hl [0, 1, 2] rfl) h
        · replace h := h.2 q25
          refine lv_aload_n hx hb dX9_status_257 rfl (lv_at hl 0 rfl) ?_
          refine g_getr hx hb hB inB9 hown hK hH (c0 := 0) h0.1 rfl 12 (by decide) k16 rfl (c1 := 3) rfl dX9_status_258 ?_
          refine lv_iload_n hx hb dX9_status_261 rfl (lv_at hl 1 rfl) ?_
          refine lv_dup2_11 hx hb dX9_status_262 rfl rfl ?_
          obtain ⟨hi26, h⟩ := h
          refine g_iald hx hb hK hH (c0 := 3) (mA3 h0) hi26 dX9_status_263 ?_
          refine lv_iconst (v := 1) hx hb dX9_status_264 (by decide) ?_
          refine lv_iadd hx hb dX9_status_265 ?_
          obtain ⟨hi27, h⟩ := h
          refine g_iast hx hb hK hH (c0 := 3) (i := x1) (mA3 h0) hi27 dX9_status_266 (fun σ27 eσ27 H locs hH => ?_)
          replace h := h σ27 eσ27
          refine lv_goto (tgt := 220) hx hb dX9_status_267 (by decide) ?_
          exact ih220 x1 x6 σ27 _ _ ls hH (lv_sub hl [0, 1, 2] rfl) h
  have L94 : ∀ (n94 : Nat) (x1 : Int32) (c2 : Nat) (hc2 : isI G 500 c2) (x4 : Int32) (x5 : Int32) (x6 : Int32) (x7 : Int32) (x8 : Int32) (σ : Sg) (H : Heap) (locs : List Loc) (ls : Array Slot), Hx G (aA G s.heap.size) s σ H locs → lv_has ls 11 [(0, .ref (ga G 0)), (1, .int x1), (2, .ref (ga G c2)), (4, .int x4), (5, .int x5), (6, .int x6), (7, .int x7), (8, .int x8)] → wpX9_status_L94 Q n94 x1 c2 x4 x5 x6 x7 x8 σ → W p l e ({ frames := 3, cells := 0, slots := 0, locals := 76 }) s m args below meth c H locs 0 0 (Zv G Q below args s) (F0 m 94 ls []) := by
    intro n94
    induction n94 with
    | zero =>
      intro x1 c2 hc2 x4 x5 x6 x7 x8 σ H locs ls hH hl h
      exact False.elim h
    | succ n94 ih94 =>
      have L211 : ∀ (x1 : Int32) (c2 : Nat) (hc2 : isI G 500 c2) (x4 : Int32) (x5 : Int32) (x6 : Int32) (x8 : Int32) (z0 : Int32) (z1 : Int32) (σ : Sg) (H : Heap) (locs : List Loc) (ls : Array Slot), Hx G (aA G s.heap.size) s σ H locs → lv_has ls 11 [(0, .ref (ga G 0)), (1, .int x1), (2, .ref (ga G c2)), (4, .int x4), (5, .int x5), (6, .int x6), (8, .int x8)] → wpX9_status_L211 Q (wpX9_status_L94 Q n94) x1 c2 x4 x5 x6 x8 z0 z1 σ → W p l e ({ frames := 3, cells := 0, slots := 0, locals := 76 }) s m args below meth c H locs 0 0 (Zv G Q below args s) (F0 m 211 ls [.int z0, .int z1]) := by
        intro x1 c2 hc2 x4 x5 x6 x8 z0 z1 σ H locs ls hH hl h
        unfold wpX9_status_L211 at h
        refine lv_iadd hx hb dX9_status_211 ?_
        refine lv_topi (fun x7_42 ex7_42 => ?_)
        replace h := h x7_42 ex7_42
        refine lv_istore (lv' := [(7, .int x7_42), (0, .ref (ga G 0)), (1, .int x1), (2, .ref (ga G c2)), (4, .int x4), (5, .int x5), (6, .int x6), (8, .int x8)]) hx hb dX9_status_212 hl (by decide) rfl (fun ls hl => ?_)
        obtain ⟨x8_43, ex8_43⟩ : ∃ y : Int32, y = x8 + 1 := ⟨_, rfl⟩
        replace h := h x8_43 ex8_43
        refine lv_iinc (v := x8_43) (lv' := [(8, .int x8_43), (7, .int x7_42), (0, .ref (ga G 0)), (1, .int x1), (2, .ref (ga G c2)), (4, .int x4), (5, .int x5), (6, .int x6)]) hx hb dX9_status_214 hl (k := 7) rfl (by rw [ex8_43]; rfl) (by decide) rfl (fun ls hl => ?_)
        refine lv_goto (tgt := 94) hx hb dX9_status_217 (by decide) ?_
        exact ih94 x1 c2 hc2 x4 x5 x6 x7_42 x8_43 σ _ _ ls hH (lv_sub hl [2, 3, 4, 5, 6, 7, 1, 0] rfl) h
      have L199 : ∀ (x1 : Int32) (c2 : Nat) (hc2 : isI G 500 c2) (x4 : Int32) (x5 : Int32) (x6 : Int32) (x7 : Int32) (x8 : Int32) (x9 : Int32) (σ : Sg) (H : Heap) (locs : List Loc) (ls : Array Slot), Hx G (aA G s.heap.size) s σ H locs → lv_has ls 11 [(0, .ref (ga G 0)), (1, .int x1), (2, .ref (ga G c2)), (4, .int x4), (5, .int x5), (6, .int x6), (7, .int x7), (8, .int x8), (9, .int x9)] → wpX9_status_L199 Q (wpX9_status_L94 Q n94) x1 c2 x4 x5 x6 x7 x8 x9 σ → W p l e ({ frames := 3, cells := 0, slots := 0, locals := 76 }) s m args below meth c H locs 0 0 (Zv G Q below args s) (F0 m 199 ls []) := by
        intro x1 c2 hc2 x4 x5 x6 x7 x8 x9 σ H locs ls hH hl h
        unfold wpX9_status_L199 at h
        refine lv_iload hx hb dX9_status_199 (lv_at hl 6 rfl) ?_
        refine lv_iload hx hb dX9_status_201 (lv_at hl 8 rfl) ?_
        refine lv_if_eq (tgt := 210) hx hb dX9_status_203 (by decide) (fun q39 => ?_) (fun q39 => ?_)
        · replace h := h.1 q39
          refine lv_iconst (v := 1) hx hb dX9_status_210 (by decide) ?_
          exact L211 x1 c2 hc2 x4 x5 x6 x8 1 x7 σ _ _ ls hH (lv_sub hl [0, 1, 2, 3, 4, 5, 7] rfl) h
        · replace h := h.2 q39
          refine lv_iconst (v := 3) hx hb dX9_status_206 (by decide) ?_
          refine lv_goto (tgt := 211) hx hb dX9_status_207 (by decide) ?_
          exact L211 x1 c2 hc2 x4 x5 x6 x8 3 x7 σ _ _ ls hH (lv_sub hl [0, 1, 2, 3, 4, 5, 7] rfl) h
      have L196 : ∀ (x1 : Int32) (c2 : Nat) (hc2 : isI G 500 c2) (x4 : Int32) (x5 : Int32) (x6 : Int32) (x7 : Int32) (x8 : Int32) (x9 : Int32) (z0 : Int32) (z1 : Int32) (z2 : Int32) (z3 : Int32) (σ : Sg) (H : Heap) (locs : List Loc) (ls : Array Slot), Hx G (aA G s.heap.size) s σ H locs → lv_has ls 11 [(0, .ref (ga G 0)), (1, .int x1), (2, .ref (ga G c2)), (4, .int x4), (5, .int x5), (6, .int x6), (7, .int x7), (8, .int x8), (9, .int x9)] → wpX9_status_L196 Q (wpX9_status_L94 Q n94) x1 c2 x4 x5 x6 x7 x8 x9 z0 z1 z2 z3 σ → W p l e ({ frames := 3, cells := 0, slots := 0, locals := 76 }) s m args below meth c H locs 0 0 (Zv G Q below args s) (F0 m 196 ls [.int z0, .int z1, .int z2, .int z3, .ref (ga G 0)]) := by
        intro x1 c2 hc2 x4 x5 x6 x7 x8 x9 z0 z1 z2 z3 σ H locs ls hH hl h
        unfold wpX9_status_L196 at h
        refine g_callVv (As := [.int z3, .int z2, .int z1, .int z0]) (rest := []) ⟨hx, hb, hml, hown, hB⟩ hK hX aA_hA hH (c0 := 0) (tX9_comesAgain h0 h) (cwV 4 hB gVX9_327 rfl rfl rfl (by decide +kernel) ⟨Nat.le_of_ble_eq_true rfl, Nat.le_of_ble_eq_true rfl⟩) h0.1 rfl rfl hl.1 rfl (lv_room (Nat.le_of_ble_eq_true rfl)) ⟨Nat.zero_le _, Nat.zero_le _⟩ dX9_status_196 (fun σ44 H locs h hH => ?_)
        exact L199 x1 c2 hc2 x4 x5 x6 x7 x8 x9 σ44 _ _ ls hH (lv_sub hl [0, 1, 2, 3, 4, 5, 6, 7, 8] rfl) h
      have L179 : ∀ (x1 : Int32) (c2 : Nat) (hc2 : isI G 500 c2) (x4 : Int32) (x5 : Int32) (x6 : Int32) (x7 : Int32) (x8 : Int32) (x9 : Int32) (z0 : Int32) (z1 : Int32) (z2 : Int32) (σ : Sg) (H : Heap) (locs : List Loc) (ls : Array Slot), Hx G (aA G s.heap.size) s σ H locs → lv_has ls 11 [(0, .ref (ga G 0)), (1, .int x1), (2, .ref (ga G c2)), (4, .int x4), (5, .int x5), (6, .int x6), (7, .int x7), (8, .int x8), (9, .int x9)] → wpX9_status_L179 Q (wpX9_status_L94 Q n94) x1 c2 x4 x5 x6 x7 x8 x9 z0 z1 z2 σ → W p l e ({ frames := 3, cells := 0, slots := 0, locals := 76 }) s m args below meth c H locs 0 0 (Zv G Q below args s) (F0 m 179 ls [.int z0, .int z1, .int z2, .ref (ga G 0)]) := by
        intro x1 c2 hc2 x4 x5 x6 x7 x8 x9 z0 z1 z2 σ H locs ls hH hl h
        unfold wpX9_status_L179 at h
        refine lv_iload hx hb dX9_status_179 (lv_at hl 8 rfl) ?_
        refine lv_if_eq (tgt := 193) hx hb dX9_status_181 (by decide) (fun q40 => ?_) (fun q40 => ?_)
        · replace h := h.1 q40
          refine lv_sipush (v := 240) hx hb dX9_status_193 (by decide) ?_
          exact L196 x1 c2 hc2 x4 x5 x6 x7 x8 x9 240 z0 z1 z2 σ _ _ ls hH (lv_sub hl [0, 1, 2, 3, 4, 5, 6, 7, 8] rfl) h
        · replace h := h.2 q40
          refine lv_aload_n hx hb dX9_status_184 rfl (lv_at hl 2 rfl) ?_
          refine lv_iload hx hb dX9_status_185 (lv_at hl 6 rfl) ?_
          refine lv_iconst (v := 2) hx hb dX9_status_187 (by decide) ?_
          refine lv_iadd hx hb dX9_status_188 ?_
          obtain ⟨hi41, h⟩ := h
          refine g_iald hx hb hK hH (c0 := c2) hc2 hi41 dX9_status_189 ?_
          refine lv_goto (tgt := 196) hx hb dX9_status_190 (by decide) ?_
          exact L196 x1 c2 hc2 x4 x5 x6 x7 x8 x9 (σ c2 (x7 + 2).toNatClampNeg) z0 z1 z2 σ _ _ ls hH (lv_sub hl [0, 1, 2, 3, 4, 5, 6, 7, 8] rfl) h
      have L115 : ∀ (x1 : Int32) (c2 : Nat) (hc2 : isI G 500 c2) (x4 : Int32) (x5 : Int32) (x6 : Int32) (x7 : Int32) (x8 : Int32) (z0 : Int32) (σ : Sg) (H : Heap) (locs : List Loc) (ls : Array Slot), Hx G (aA G s.heap.size) s σ H locs → lv_has ls 11 [(0, .ref (ga G 0)), (1, .int x1), (2, .ref (ga G c2)), (4, .int x4), (5, .int x5), (6, .int x6), (7, .int x7), (8, .int x8)] → wpX9_status_L115 Q (wpX9_status_L94 Q n94) x1 c2 x4 x5 x6 x7 x8 z0 σ → W p l e ({ frames := 3, cells := 0, slots := 0, locals := 76 }) s m args below meth c H locs 0 0 (Zv G Q below args s) (F0 m 115 ls [.int z0]) := by
        intro x1 c2 hc2 x4 x5 x6 x7 x8 z0 σ H locs ls hH hl h
        unfold wpX9_status_L115 at h
        refine lv_istore (lv' := [(9, .int z0), (0, .ref (ga G 0)), (1, .int x1), (2, .ref (ga G c2)), (4, .int x4), (5, .int x5), (6, .int x6), (7, .int x7), (8, .int x8)]) hx hb dX9_status_115 hl (by decide) rfl (fun ls hl => ?_)
        refine lv_iload hx hb dX9_status_117 (lv_at hl 5 rfl) ?_
        refine lv_aload_n hx hb dX9_status_119 rfl (lv_at hl 3 rfl) ?_
        refine lv_iload hx hb dX9_status_120 (lv_at hl 7 rfl) ?_
        obtain ⟨hi28, h⟩ := h
        refine g_iald hx hb hK hH (c0 := c2) hc2 hi28 dX9_status_122 ?_
        refine lv_bipush (v := 63) hx hb dX9_status_123 (by decide) ?_
        refine lv_iand hx hb dX9_status_125 ?_
        refine g_callSi (As := [.int x5, .int ((σ c2 x7.toNatClampNeg) &&& 63)]) (rest := []) ⟨hx, hb, hml, hown, hB⟩ hK hX aA_hA hH (tX9_meant h) (va_cwS 2 hB gSX9_316 rfl rfl rfl (by decide +kernel) ⟨Nat.le_of_ble_eq_true rfl, Nat.le_of_ble_eq_true rfl⟩) rfl hl.1 rfl (lv_room (Nat.le_of_ble_eq_true rfl)) ⟨Nat.zero_le _, Nat.zero_le _⟩ dX9_status_126 (fun r29 σ29 H locs h hH => ?_)
        refine lv_istore (lv' := [(10, .int r29), (9, .int z0), (0, .ref (ga G 0)), (1, .int x1), (2, .ref (ga G c2)), (4, .int x4), (5, .int x5), (6, .int x6), (7, .int x7), (8, .int x8)]) hx hb dX9_status_129 hl (by decide) rfl (fun ls hl => ?_)
        refine lv_iload hx hb dX9_status_131 (lv_at hl 0 rfl) ?_
        refine lv_aload_n hx hb dX9_status_133 rfl (lv_at hl 2 rfl) ?_
        refine g_getr hx hb hB inB9 hown hK hH (c0 := 0) h0.1 rfl 13 (by decide) k19 rfl (c1 := 4) rfl dX9_status_134 ?_
        refine lv_iload_n hx hb dX9_status_137 rfl (lv_at hl 3 rfl) ?_
        obtain ⟨hi30, h⟩ := h
        refine g_iald hx hb hK hH (c0 := 4) (mA4 h0) hi30 dX9_status_138 ?_
        refine lv_icmp_ge (tgt := 199) hx hb dX9_status_139 (by decide) (fun q31 => ?_) (fun q31 => ?_)
        · replace h := h.1 q31
          exact L199 x1 c2 hc2 x4 x5 x6 x7 x8 z0 σ29 _ _ ls hH (lv_sub hl [2, 3, 4, 5, 6, 7, 8, 9, 1] rfl) h
        · replace h := h.2 q31
          refine lv_aload_n hx hb dX9_status_142 rfl (lv_at hl 2 rfl) ?_
          refine g_getr hx hb hB inB9 hown hK hH (c0 := 0) h0.1 rfl 38 (by decide) k95 rfl (c1 := 29) rfl dX9_status_143 ?_
          refine lv_bipush (v := 16) hx hb dX9_status_146 (by decide) ?_
          refine lv_iload_n hx hb dX9_status_148 rfl (lv_at hl 3 rfl) ?_
          refine lv_imul hx hb dX9_status_149 ?_
          refine lv_iload hx hb dX9_status_150 (lv_at hl 0 rfl) ?_
          refine lv_bipush (v := 15) hx hb dX9_status_152 (by decide) ?_
          refine lv_iand hx hb dX9_status_154 ?_
          refine lv_iadd hx hb dX9_status_155 ?_
          obtain ⟨hi32, h⟩ := h
          refine g_zald hx hb hK hH (c0 := 29) (mA29 h0) hi32 dX9_status_156 ?_
          refine lv_if_ne (tgt := 199) hx hb dX9_status_157 (by decide) (fun q33 => ?_) (fun q33 => ?_)
          · replace h := h.1 q33
            exact L199 x1 c2 hc2 x4 x5 x6 x7 x8 z0 σ29 _ _ ls hH (lv_sub hl [2, 3, 4, 5, 6, 7, 8, 9, 1] rfl) h
          · replace h := h.2 q33
            refine lv_aload_n hx hb dX9_status_160 rfl (lv_at hl 2 rfl) ?_
            refine lv_iload_n hx hb dX9_status_161 rfl (lv_at hl 3 rfl) ?_
            refine lv_iload hx hb dX9_status_162 (lv_at hl 0 rfl) ?_
            refine lv_iload hx hb dX9_status_164 (lv_at hl 1 rfl) ?_
            refine lv_if_eq (tgt := 178) hx hb dX9_status_166 (by decide) (fun q34 => ?_) (fun q34 => ?_)
            · replace h := h.1 q34
              refine lv_iconst (v := 0) hx hb dX9_status_178 (by decide) ?_
              exact L179 x1 c2 hc2 x4 x5 x6 x7 x8 z0 0 r29 x1 σ29 _ _ ls hH (lv_sub hl [2, 3, 4, 5, 6, 7, 8, 9, 1] rfl) h
            · replace h := h.2 q34
              refine lv_aload_n hx hb dX9_status_169 rfl (lv_at hl 4 rfl) ?_
              refine lv_iload hx hb dX9_status_170 (lv_at hl 8 rfl) ?_
              refine lv_iconst (v := 1) hx hb dX9_status_172 (by decide) ?_
              refine lv_iadd hx hb dX9_status_173 ?_
              obtain ⟨hi35, h⟩ := h
              refine g_iald hx hb hK hH (c0 := c2) hc2 hi35 dX9_status_174 ?_
              refine lv_goto (tgt := 179) hx hb dX9_status_175 (by decide) ?_
              exact L179 x1 c2 hc2 x4 x5 x6 x7 x8 z0 (σ29 c2 (x7 + 1).toNatClampNeg) r29 x1 σ29 _ _ ls hH (lv_sub hl [2, 3, 4, 5, 6, 7, 8, 9, 1] rfl) h
      intro x1 c2 hc2 x4 x5 x6 x7 x8 σ H locs ls hH hl h
      unfold wpX9_status_L94 at h
      refine lv_iload hx hb dX9_status_94 (lv_at hl 7 rfl) ?_
      refine lv_iload hx hb dX9_status_96 (lv_at hl 3 rfl) ?_
      refine lv_icmp_ge (tgt := 220) hx hb dX9_status_98 (by decide) (fun q16 => ?_) (fun q16 => ?_)
      · replace h := h.1 q16
        obtain ⟨nn, h⟩ := h
        exact L220 nn x1 x6 σ _ _ ls hH (lv_sub hl [0, 1, 5] rfl) h
      · replace h := h.2 q16
        refine lv_aload_n hx hb dX9_status_101 rfl (lv_at hl 2 rfl) ?_
        refine lv_iload hx hb dX9_status_102 (lv_at hl 6 rfl) ?_
        obtain ⟨hi17, h⟩ := h
        refine g_iald hx hb hK hH (c0 := c2) hc2 hi17 dX9_status_104 ?_
        refine lv_bipush (v := 127) hx hb dX9_status_105 (by decide) ?_
        refine lv_icmp_le (tgt := 114) hx hb dX9_status_107 (by decide) (fun q18 => ?_) (fun q18 => ?_)
        · replace h := h.1 q18
          refine lv_iconst (v := 0) hx hb dX9_status_114 (by decide) ?_
          exact L115 x1 c2 hc2 x4 x5 x6 x7 x8 0 σ _ _ ls hH (lv_sub hl [0, 1, 2, 3, 4, 5, 6, 7] rfl) h
        · replace h := h.2 q18
          refine lv_iconst (v := 1) hx hb dX9_status_110 (by decide) ?_
          refine lv_goto (tgt := 115) hx hb dX9_status_111 (by decide) ?_
          exact L115 x1 c2 hc2 x4 x5 x6 x7 x8 1 σ _ _ ls hH (lv_sub hl [0, 1, 2, 3, 4, 5, 6, 7] rfl) h
  have L54 : ∀ (n54 : Nat) (x1 : Int32) (c2 : Nat) (hc2 : isI G 500 c2) (x3 : Int32) (x4 : Int32) (x5 : Int32) (x6 : Int32) (x7 : Int32) (σ : Sg) (H : Heap) (locs : List Loc) (ls : Array Slot), Hx G (aA G s.heap.size) s σ H locs → lv_has ls 11 [(0, .ref (ga G 0)), (1, .int x1), (2, .ref (ga G c2)), (3, .int x3), (4, .int x4), (5, .int x5), (6, .int x6), (7, .int x7)] → wpX9_status_L54 Q n54 x1 c2 x3 x4 x5 x6 x7 σ → W p l e ({ frames := 3, cells := 0, slots := 0, locals := 76 }) s m args below meth c H locs 0 0 (Zv G Q below args s) (F0 m 54 ls []) := by
    intro n54
    induction n54 with
    | zero =>
      intro x1 c2 hc2 x3 x4 x5 x6 x7 σ H locs ls hH hl h
      exact False.elim h
    | succ n54 ih54 =>
      have L80 : ∀ (x1 : Int32) (c2 : Nat) (hc2 : isI G 500 c2) (x3 : Int32) (x4 : Int32) (x5 : Int32) (x6 : Int32) (x7 : Int32) (σ : Sg) (H : Heap) (locs : List Loc) (ls : Array Slot), Hx G (aA G s.heap.size) s σ H locs → lv_has ls 11 [(0, .ref (ga G 0)), (1, .int x1), (2, .ref (ga G c2)), (3, .int x3), (4, .int x4), (5, .int x5), (6, .int x6), (7, .int x7)] → wpX9_status_L80 Q (wpX9_status_L54 Q n54) x1 c2 x3 x4 x5 x6 x7 σ → W p l e ({ frames := 3, cells := 0, slots := 0, locals := 76 }) s m args below meth c H locs 0 0 (Zv G Q below args s) (F0 m 80 ls []) := by
        intro x1 c2 hc2 x3 x4 x5 x6 x7 σ H locs ls hH hl h
        unfold wpX9_status_L80 at h
        obtain ⟨x7_19, ex7_19⟩ : ∃ y : Int32, y = x7 + 1 := ⟨_, rfl⟩
        replace h := h x7_19 ex7_19
        refine lv_iinc (v := x7_19) (lv' := [(7, .int x7_19), (0, .ref (ga G 0)), (1, .int x1), (2, .ref (ga G c2)), (3, .int x3), (4, .int x4), (5, .int x5), (6, .int x6)]) hx hb dX9_status_80 hl (k := 7) rfl (by rw [ex7_19]; rfl) (by decide) rfl (fun ls hl => ?_)
        refine lv_goto (tgt := 54) hx hb dX9_status_83 (by decide) ?_
        exact ih54 x1 c2 hc2 x3 x4 x5 x6 x7_19 σ _ _ ls hH (lv_sub hl [1, 2, 3, 4, 5, 6, 7, 0] rfl) h
      intro x1 c2 hc2 x3 x4 x5 x6 x7 σ H locs ls hH hl h
      unfold wpX9_status_L54 at h
      refine lv_iload hx hb dX9_status_54 (lv_at hl 7 rfl) ?_
      refine lv_iload hx hb dX9_status_56 (lv_at hl 6 rfl) ?_
      refine lv_icmp_ge (tgt := 86) hx hb dX9_status_58 (by decide) (fun q11 => ?_) (fun q11 => ?_)
      · replace h := h.1 q11
        refine lv_iload_n hx hb dX9_status_86 rfl (lv_at hl 3 rfl) ?_
        refine lv_iconst (v := 2) hx hb dX9_status_87 (by decide) ?_
        refine lv_iadd hx hb dX9_status_88 ?_
        refine lv_topi (fun x7_12 ex7_12 => ?_)
        replace h := h x7_12 ex7_12
        refine lv_istore (lv' := [(7, .int x7_12), (0, .ref (ga G 0)), (1, .int x1), (2, .ref (ga G c2)), (3, .int x3), (4, .int x4), (5, .int x5), (6, .int x6)]) hx hb dX9_status_89 hl (by decide) rfl (fun ls hl => ?_)
        refine lv_iconst (v := 0) hx hb dX9_status_91 (by decide) ?_
        refine lv_istore (lv' := [(8, .int 0), (7, .int x7_12), (0, .ref (ga G 0)), (1, .int x1), (2, .ref (ga G c2)), (3, .int x3), (4, .int x4), (5, .int x5), (6, .int x6)]) hx hb dX9_status_92 hl (by decide) rfl (fun ls hl => ?_)
        obtain ⟨nn, h⟩ := h
        exact L94 nn x1 c2 hc2 x4 x5 x6 x7_12 0 σ _ _ ls hH (lv_sub hl [2, 3, 4, 6, 7, 8, 1, 0] rfl) h
      · replace h := h.2 q11
        refine lv_aload_n hx hb dX9_status_61 rfl (lv_at hl 2 rfl) ?_
        refine lv_iload_n hx hb dX9_status_62 rfl (lv_at hl 3 rfl) ?_
        refine lv_iload hx hb dX9_status_63 (lv_at hl 4 rfl) ?_
        refine lv_iload hx hb dX9_status_65 (lv_at hl 7 rfl) ?_
        refine g_callSi (As := [.ref (ga G c2), .int x3, .int x4, .int x7]) (rest := []) ⟨hx, hb, hml, hown, hB⟩ hK hX aA_hA hH (tX9_isNamed hc2 h) (va_cwS 4 hB gSX9_319 rfl rfl rfl (by decide +kernel) ⟨Nat.le_of_ble_eq_true rfl, Nat.le_of_ble_eq_true rfl⟩) rfl hl.1 rfl (lv_room (Nat.le_of_ble_eq_true rfl)) ⟨Nat.zero_le _, Nat.zero_le _⟩ dX9_status_67 (fun r13 σ13 H locs h hH => ?_)
        refine lv_if_ne (tgt := 80) hx hb dX9_status_70 (by decide) (fun q14 => ?_) (fun q14 => ?_)
        · replace h := h.1 q14
          exact L80 x1 c2 hc2 x3 x4 x5 x6 x7 σ13 _ _ ls hH (lv_sub hl [0, 1, 2, 3, 4, 5, 6, 7] rfl) h
        · replace h := h.2 q14
          refine lv_aload_n hx hb dX9_status_73 rfl (lv_at hl 0 rfl) ?_
          refine lv_iload_n hx hb dX9_status_74 rfl (lv_at hl 1 rfl) ?_
          refine lv_iload hx hb dX9_status_75 (lv_at hl 7 rfl) ?_
          refine g_callVv (As := [.int x1, .int x7]) (rest := []) ⟨hx, hb, hml, hown, hB⟩ hK hX aA_hA hH (c0 := 0) (tX9_confirmPiece h0 h) (cwV 2 hB gVX9_323 rfl rfl rfl (by decide +kernel) ⟨Nat.le_of_ble_eq_true rfl, Nat.le_of_ble_eq_true rfl⟩) h0.1 rfl rfl hl.1 rfl (lv_room (Nat.le_of_ble_eq_true rfl)) ⟨Nat.zero_le _, Nat.zero_le _⟩ dX9_status_77 (fun σ15 H locs h hH => ?_)
          exact L80 x1 c2 hc2 x3 x4 x5 x6 x7 σ15 _ _ ls hH (lv_sub hl [0, 1, 2, 3, 4, 5, 6, 7] rfl) h
  unfold wpX9_status at h
  refine lv_aload_n hx hb dX9_status_0 rfl (lv_at hl 0 rfl) ?_
  refine g_getr hx hb hB inB9 hown hK hH (c0 := 0) h0.1 rfl 20 (by decide) k40 rfl (c1 := 11) rfl dX9_status_1 ?_
  refine lv_iload_n hx hb dX9_status_4 rfl (lv_at hl 1 rfl) ?_
  refine lv_dup2_11 hx hb dX9_status_5 rfl rfl ?_
  obtain ⟨hi1, h⟩ := h
  refine g_iald hx hb hK hH (c0 := 11) (mA11 h0) hi1 dX9_status_6 ?_
  refine lv_iconst (v := 1) hx hb dX9_status_7 (by decide) ?_
  refine lv_iadd hx hb dX9_status_8 ?_
  obtain ⟨hi2, h⟩ := h
  refine g_iast hx hb hK hH (c0 := 11) (i := x1) (mA11 h0) hi2 dX9_status_9 (fun σ2 eσ2 H locs hH => ?_)
  replace h := h σ2 eσ2
  refine lv_aload_n hx hb dX9_status_10 rfl (lv_at hl 2 rfl) ?_
  refine lv_iload_n hx hb dX9_status_11 rfl (lv_at hl 3 rfl) ?_
  obtain ⟨hi3, h⟩ := h
  refine g_iald hx hb hK hH (c0 := c2) hc2 hi3 dX9_status_12 ?_
  refine lv_topi (fun x4_4 ex4_4 => ?_)
  replace h := h x4_4 ex4_4
  refine lv_istore (lv' := [(4, .int x4_4), (0, .ref (ga G 0)), (1, .int x1), (2, .ref (ga G c2)), (3, .int x3)]) hx hb dX9_status_13 hl (by decide) rfl (fun ls hl => ?_)
  refine lv_aload_n hx hb dX9_status_15 rfl (lv_at hl 1 rfl) ?_
  refine g_getr hx hb hB inB9 hown hK hH (c0 := 0) h0.1 rfl 12 (by decide) k16 rfl (c1 := 3) rfl dX9_status_16 ?_
  refine lv_iload_n hx hb dX9_status_19 rfl (lv_at hl 2 rfl) ?_
  obtain ⟨hi5, h⟩ := h
  refine g_iald hx hb hK hH (c0 := 3) (mA3 h0) hi5 dX9_status_20 ?_
  refine lv_topi (fun x5_6 ex5_6 => ?_)
  replace h := h x5_6 ex5_6
  refine lv_istore (lv' := [(5, .int x5_6), (4, .int x4_4), (0, .ref (ga G 0)), (1, .int x1), (2, .ref (ga G c2)), (3, .int x3)]) hx hb dX9_status_21 hl (by decide) rfl (fun ls hl => ?_)
  refine lv_iload hx hb dX9_status_23 (lv_at hl 0 rfl) ?_
  refine lv_aload_n hx hb dX9_status_25 rfl (lv_at hl 4 rfl) ?_
  refine lv_iload_n hx hb dX9_status_26 rfl (lv_at hl 5 rfl) ?_
  refine lv_iconst (v := 1) hx hb dX9_status_27 (by decide) ?_
  refine lv_iadd hx hb dX9_status_28 ?_
  obtain ⟨hi7, h⟩ := h
  refine g_iald hx hb hK hH (c0 := c2) hc2 hi7 dX9_status_29 ?_
  refine lv_bipush (v := 63) hx hb dX9_status_30 (by decide) ?_
  refine lv_iand hx hb dX9_status_32 ?_
  refine g_callSi (As := [.int x5_6, .int ((σ2 c2 (x3 + 1).toNatClampNeg) &&& 63)]) (rest := []) ⟨hx, hb, hml, hown, hB⟩ hK hX aA_hA hH (tX9_meant h) (va_cwS 2 hB gSX9_316 rfl rfl rfl (by decide +kernel) ⟨Nat.le_of_ble_eq_true rfl, Nat.le_of_ble_eq_true rfl⟩) rfl hl.1 rfl (lv_room (Nat.le_of_ble_eq_true rfl)) ⟨Nat.zero_le _, Nat.zero_le _⟩ dX9_status_33 (fun r8 σ8 H locs h hH => ?_)
  refine lv_istore (lv' := [(6, .int r8), (5, .int x5_6), (4, .int x4_4), (0, .ref (ga G 0)), (1, .int x1), (2, .ref (ga G c2)), (3, .int x3)]) hx hb dX9_status_36 hl (by decide) rfl (fun ls hl => ?_)
  refine lv_iload hx hb dX9_status_38 (lv_at hl 0 rfl) ?_
  refine lv_aload_n hx hb dX9_status_40 rfl (lv_at hl 3 rfl) ?_
  refine g_getr hx hb hB inB9 hown hK hH (c0 := 0) h0.1 rfl 13 (by decide) k19 rfl (c1 := 4) rfl dX9_status_41 ?_
  refine lv_iload_n hx hb dX9_status_44 rfl (lv_at hl 4 rfl) ?_
  obtain ⟨hi9, h⟩ := h
  refine g_iald hx hb hK hH (c0 := 4) (mA4 h0) hi9 dX9_status_45 ?_
  refine lv_icmp_le (tgt := 50) hx hb dX9_status_46 (by decide) (fun q10 => ?_) (fun q10 => ?_)
  · replace h := h.1 q10
    refine lv_iload hx hb dX9_status_50 (lv_at hl 1 rfl) ?_
    refine lv_istore (lv' := [(7, .int x5_6), (6, .int r8), (5, .int x5_6), (4, .int x4_4), (0, .ref (ga G 0)), (1, .int x1), (2, .ref (ga G c2)), (3, .int x3)]) hx hb dX9_status_52 hl (by decide) rfl (fun ls hl => ?_)
    obtain ⟨nn, h⟩ := h
    exact L54 nn x1 c2 hc2 x3 x4_4 x5_6 r8 x5_6 σ8 _ _ ls hH (lv_sub hl [4, 5, 6, 7, 3, 2, 1, 0] rfl) h
  · replace h := h.2 q10
    exact g_vret hx hb hr hK hlk h hH dX9_status_49
def wpX9_asksStatus (x1 : Int32) (σ : Sg) (Q : Sg → Prop) : Prop := (vp_in x1 6 ∧ (((σ 39 x1.toNatClampNeg) = (-1) → Q σ) ∧ (¬ ((σ 39 x1.toNatClampNeg) = (-1)) → (vp_in x1 6 ∧ (vp_in x1 6 ∧ (((σ 39 x1.toNatClampNeg) < (σ 35 x1.toNatClampNeg) → (vp_in x1 6 ∧ ∀ σ6 : Sg, σ6 = up2 σ 43 x1.toNatClampNeg 1 → (vp_in x1 6 ∧ ∀ σ7 : Sg, σ7 = up2 σ6 39 x1.toNatClampNeg (-1) → Q σ7))) ∧ (¬ ((σ 39 x1.toNatClampNeg) < (σ 35 x1.toNatClampNeg)) → Q σ)))))))
set_option maxHeartbeats 8000000 in
set_option maxRecDepth 100000 in
theorem tX9_asksStatus {l : Launch} {G : GG} {x1 : Int32} {σ : Sg} {Q : Sg → Prop} (h0 : isModel G) (h : wpX9_asksStatus x1 σ Q) : Kv l G yX9_asksStatus (wB yX9_asksStatus prog_11_method_34_code 2 none) ({ frames := 0, cells := 0, slots := 0, locals := 0 }) [.ref (ga G 0), .int x1] σ Q := by
  refine K_of (cc := cX9_asksStatus) (maxL := 2) (ret := none) (by decide) rfl (Nat.le_of_ble_eq_true rfl) ?_
  intro p e s m args below meth c ls B hH hl
  obtain ⟨hx, hb, hr, hts, hown, hlk, hml, hK, hX⟩ := B
  replace hl : lv_has ls 2 [(0, .ref (ga G 0)), (1, .int x1)] := hl
  have hB : ∀ w ∈ BIG, w.before args s = true := fun w h9 => hts w (List.mem_cons_of_mem _ h9)
  clear hts
  have k113 := hB _ bw4_154
  have k125 := hB _ bw4_158
  have k137 := hB _ bw4_162
  unfold wpX9_asksStatus at h
  refine lv_aload_n hx hb dX9_asksStatus_0 rfl (lv_at hl 0 rfl) ?_
  refine g_getr hx hb hB inB9 hown hK hH (c0 := 0) h0.1 rfl 48 (by decide) k125 rfl (c1 := 39) rfl dX9_asksStatus_1 ?_
  refine lv_iload_n hx hb dX9_asksStatus_4 rfl (lv_at hl 1 rfl) ?_
  obtain ⟨hi1, h⟩ := h
  refine g_iald hx hb hK hH (c0 := 39) (mA39 h0) hi1 dX9_asksStatus_5 ?_
  refine lv_iconst (v := (-1)) hx hb dX9_asksStatus_6 (by decide) ?_
  refine lv_icmp_eq (tgt := 25) hx hb dX9_asksStatus_7 (by decide) (fun q2 => ?_) (fun q2 => ?_)
  · replace h := h.1 q2
    exact g_vret hx hb hr hK hlk h hH dX9_asksStatus_25
  · replace h := h.2 q2
    refine lv_aload_n hx hb dX9_asksStatus_10 rfl (lv_at hl 0 rfl) ?_
    refine g_getr hx hb hB inB9 hown hK hH (c0 := 0) h0.1 rfl 48 (by decide) k125 rfl (c1 := 39) rfl dX9_asksStatus_11 ?_
    refine lv_iload_n hx hb dX9_asksStatus_14 rfl (lv_at hl 1 rfl) ?_
    obtain ⟨hi3, h⟩ := h
    refine g_iald hx hb hK hH (c0 := 39) (mA39 h0) hi3 dX9_asksStatus_15 ?_
    refine lv_aload_n hx hb dX9_asksStatus_16 rfl (lv_at hl 0 rfl) ?_
    refine g_getr hx hb hB inB9 hown hK hH (c0 := 0) h0.1 rfl 44 (by decide) k113 rfl (c1 := 35) rfl dX9_asksStatus_17 ?_
    refine lv_iload_n hx hb dX9_asksStatus_20 rfl (lv_at hl 1 rfl) ?_
    obtain ⟨hi4, h⟩ := h
    refine g_iald hx hb hK hH (c0 := 35) (mA35 h0) hi4 dX9_asksStatus_21 ?_
    refine lv_icmp_lt (tgt := 26) hx hb dX9_asksStatus_22 (by decide) (fun q5 => ?_) (fun q5 => ?_)
    · replace h := h.1 q5
      refine lv_aload_n hx hb dX9_asksStatus_26 rfl (lv_at hl 0 rfl) ?_
      refine g_getr hx hb hB inB9 hown hK hH (c0 := 0) h0.1 rfl 52 (by decide) k137 rfl (c1 := 43) rfl dX9_asksStatus_27 ?_
      refine lv_iload_n hx hb dX9_asksStatus_30 rfl (lv_at hl 1 rfl) ?_
      refine lv_iconst (v := 1) hx hb dX9_asksStatus_31 (by decide) ?_
      obtain ⟨hi6, h⟩ := h
      refine g_zast hx hb hK hH (c0 := 43) (i := x1) (mA43 h0) vz1 hi6 dX9_asksStatus_32 (fun σ6 eσ6 H locs hH => ?_)
      replace h := h σ6 eσ6
      refine lv_aload_n hx hb dX9_asksStatus_33 rfl (lv_at hl 0 rfl) ?_
      refine g_getr hx hb hB inB9 hown hK hH (c0 := 0) h0.1 rfl 48 (by decide) k125 rfl (c1 := 39) rfl dX9_asksStatus_34 ?_
      refine lv_iload_n hx hb dX9_asksStatus_37 rfl (lv_at hl 1 rfl) ?_
      refine lv_iconst (v := (-1)) hx hb dX9_asksStatus_38 (by decide) ?_
      obtain ⟨hi7, h⟩ := h
      refine g_iast hx hb hK hH (c0 := 39) (i := x1) (mA39 h0) hi7 dX9_asksStatus_39 (fun σ7 eσ7 H locs hH => ?_)
      replace h := h σ7 eσ7
      exact g_vret hx hb hr hK hlk h hH dX9_asksStatus_40
    · replace h := h.2 q5
      exact g_vret hx hb hr hK hlk h hH dX9_asksStatus_25
def wpX9_goOn_L0 (Q : Sg → Prop) : Nat → Int32 → Sg → Prop
  | 0, _, _ => False
  | n + 1, x1, σ => (vp_in x1 6 ∧ wpX9_isWhole x1 (σ 35 x1.toNatClampNeg) σ (fun r7 σ7 => ((r7 = 0 → Q σ7) ∧ (¬ (r7 = 0) → (vp_in x1 6 ∧ (vp_in x1 6 ∧ ∀ σ10 : Sg, σ10 = up2 σ7 35 x1.toNatClampNeg ((σ7 35 x1.toNatClampNeg) + 1) → (wpX9_goOn_L0 Q n) x1 σ10))))))
def wpX9_goOn (x1 : Int32) (σ : Sg) (Q : Sg → Prop) : Prop := (vp_in x1 6 ∧ wpX9_isWhole x1 (σ 35 x1.toNatClampNeg) σ (fun r2 σ2 => ((r2 = 0 → Q σ2) ∧ (¬ (r2 = 0) → (vp_in x1 6 ∧ (vp_in x1 6 ∧ ∀ σ5 : Sg, σ5 = up2 σ2 35 x1.toNatClampNeg ((σ2 35 x1.toNatClampNeg) + 1) → ∃ nn, wpX9_goOn_L0 Q nn x1 σ5))))))
set_option maxHeartbeats 8000000 in
set_option maxRecDepth 100000 in
theorem tX9_goOn {l : Launch} {G : GG} {x1 : Int32} {σ : Sg} {Q : Sg → Prop} (h0 : isModel G) (h : wpX9_goOn x1 σ Q) : Kv l G yX9_goOn (wB yX9_goOn prog_11_method_35_code 2 none) ({ frames := 1, cells := 0, slots := 0, locals := 25 }) [.ref (ga G 0), .int x1] σ Q := by
  refine K_of (cc := cX9_goOn) (maxL := 2) (ret := none) (by decide) rfl (Nat.le_of_ble_eq_true rfl) ?_
  intro p e s m args below meth c ls B hH hl
  obtain ⟨hx, hb, hr, hts, hown, hlk, hml, hK, hX⟩ := B
  replace hl : lv_has ls 2 [(0, .ref (ga G 0)), (1, .int x1)] := hl
  have hB : ∀ w ∈ BIG, w.before args s = true := fun w h9 => hts w (List.mem_cons_of_mem _ h9)
  clear hts
  have k113 := hB _ bw4_154
  have L0 : ∀ (n0 : Nat) (x1 : Int32) (σ : Sg) (H : Heap) (locs : List Loc) (ls : Array Slot), Hx G (aA G s.heap.size) s σ H locs → lv_has ls 2 [(0, .ref (ga G 0)), (1, .int x1)] → wpX9_goOn_L0 Q n0 x1 σ → W p l e ({ frames := 1, cells := 0, slots := 0, locals := 25 }) s m args below meth c H locs 0 0 (Zv G Q below args s) (F0 m 0 ls []) := by
    intro n0
    induction n0 with
    | zero =>
      intro x1 σ H locs ls hH hl h
      exact False.elim h
    | succ n0 ih0 =>
      intro x1 σ H locs ls hH hl h
      unfold wpX9_goOn_L0 at h
      refine lv_aload_n hx hb dX9_goOn_0 rfl (lv_at hl 0 rfl) ?_
      refine lv_iload_n hx hb dX9_goOn_1 rfl (lv_at hl 1 rfl) ?_
      refine lv_aload_n hx hb dX9_goOn_2 rfl (lv_at hl 0 rfl) ?_
      refine g_getr hx hb hB inB9 hown hK hH (c0 := 0) h0.1 rfl 44 (by decide) k113 rfl (c1 := 35) rfl dX9_goOn_3 ?_
      refine lv_iload_n hx hb dX9_goOn_6 rfl (lv_at hl 1 rfl) ?_
      obtain ⟨hi6, h⟩ := h
      refine g_iald hx hb hK hH (c0 := 35) (mA35 h0) hi6 dX9_goOn_7 ?_
      refine g_callVi (As := [.int x1, .int (σ 35 x1.toNatClampNeg)]) (rest := []) ⟨hx, hb, hml, hown, hB⟩ hK hX aA_hA hH (c0 := 0) (tX9_isWhole h0 h) (cwV 2 hB gVX9_306 rfl rfl rfl (by decide +kernel) ⟨Nat.le_of_ble_eq_true rfl, Nat.le_of_ble_eq_true rfl⟩) h0.1 rfl rfl hl.1 rfl (lv_room (Nat.le_of_ble_eq_true rfl)) ⟨Nat.zero_le _, Nat.zero_le _⟩ dX9_goOn_8 (fun r7 σ7 H locs h hH => ?_)
      refine lv_if_eq (tgt := 27) hx hb dX9_goOn_11 (by decide) (fun q8 => ?_) (fun q8 => ?_)
      · replace h := h.1 q8
        exact g_vret hx hb hr hK hlk h hH dX9_goOn_27
      · replace h := h.2 q8
        refine lv_aload_n hx hb dX9_goOn_14 rfl (lv_at hl 0 rfl) ?_
        refine g_getr hx hb hB inB9 hown hK hH (c0 := 0) h0.1 rfl 44 (by decide) k113 rfl (c1 := 35) rfl dX9_goOn_15 ?_
        refine lv_iload_n hx hb dX9_goOn_18 rfl (lv_at hl 1 rfl) ?_
        refine lv_dup2_11 hx hb dX9_goOn_19 rfl rfl ?_
        obtain ⟨hi9, h⟩ := h
        refine g_iald hx hb hK hH (c0 := 35) (mA35 h0) hi9 dX9_goOn_20 ?_
        refine lv_iconst (v := 1) hx hb dX9_goOn_21 (by decide) ?_
        refine lv_iadd hx hb dX9_goOn_22 ?_
        obtain ⟨hi10, h⟩ := h
        refine g_iast hx hb hK hH (c0 := 35) (i := x1) (mA35 h0) hi10 dX9_goOn_23 (fun σ10 eσ10 H locs hH => ?_)
        replace h := h σ10 eσ10
        refine lv_goto (tgt := 0) hx hb dX9_goOn_24 (by decide) ?_
        exact ih0 x1 σ10 _ _ ls hH (lv_sub hl [0, 1] rfl) h
  unfold wpX9_goOn at h
  refine lv_aload_n hx hb dX9_goOn_0 rfl (lv_at hl 0 rfl) ?_
  refine lv_iload_n hx hb dX9_goOn_1 rfl (lv_at hl 1 rfl) ?_
  refine lv_aload_n hx hb dX9_goOn_2 rfl (lv_at hl 0 rfl) ?_
  refine g_getr hx hb hB inB9 hown hK hH (c0 := 0) h0.1 rfl 44 (by decide) k113 rfl (c1 := 35) rfl dX9_goOn_3 ?_
  refine lv_iload_n hx hb dX9_goOn_6 rfl (lv_at hl 1 rfl) ?_
  obtain ⟨hi1, h⟩ := h
  refine g_iald hx hb hK hH (c0 := 35) (mA35 h0) hi1 dX9_goOn_7 ?_
  refine g_callVi (As := [.int x1, .int (σ 35 x1.toNatClampNeg)]) (rest := []) ⟨hx, hb, hml, hown, hB⟩ hK hX aA_hA hH (c0 := 0) (tX9_isWhole h0 h) (cwV 2 hB gVX9_306 rfl rfl rfl (by decide +kernel) ⟨Nat.le_of_ble_eq_true rfl, Nat.le_of_ble_eq_true rfl⟩) h0.1 rfl rfl hl.1 rfl (lv_room (Nat.le_of_ble_eq_true rfl)) ⟨Nat.zero_le _, Nat.zero_le _⟩ dX9_goOn_8 (fun r2 σ2 H locs h hH => ?_)
  refine lv_if_eq (tgt := 27) hx hb dX9_goOn_11 (by decide) (fun q3 => ?_) (fun q3 => ?_)
  · replace h := h.1 q3
    exact g_vret hx hb hr hK hlk h hH dX9_goOn_27
  · replace h := h.2 q3
    refine lv_aload_n hx hb dX9_goOn_14 rfl (lv_at hl 0 rfl) ?_
    refine g_getr hx hb hB inB9 hown hK hH (c0 := 0) h0.1 rfl 44 (by decide) k113 rfl (c1 := 35) rfl dX9_goOn_15 ?_
    refine lv_iload_n hx hb dX9_goOn_18 rfl (lv_at hl 1 rfl) ?_
    refine lv_dup2_11 hx hb dX9_goOn_19 rfl rfl ?_
    obtain ⟨hi4, h⟩ := h
    refine g_iald hx hb hK hH (c0 := 35) (mA35 h0) hi4 dX9_goOn_20 ?_
    refine lv_iconst (v := 1) hx hb dX9_goOn_21 (by decide) ?_
    refine lv_iadd hx hb dX9_goOn_22 ?_
    obtain ⟨hi5, h⟩ := h
    refine g_iast hx hb hK hH (c0 := 35) (i := x1) (mA35 h0) hi5 dX9_goOn_23 (fun σ5 eσ5 H locs hH => ?_)
    replace h := h σ5 eσ5
    refine lv_goto (tgt := 0) hx hb dX9_goOn_24 (by decide) ?_
    obtain ⟨nn, h⟩ := h
    exact L0 nn x1 σ5 _ _ ls hH (lv_sub hl [0, 1] rfl) h

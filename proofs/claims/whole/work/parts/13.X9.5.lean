def wpX9_dataComes_L342 (Q : Sg → Prop) (x6 : Int32) (σ : Sg) : Prop := wpX9_asksStatus x6 σ (fun σ54 => Q σ54)
def wpX9_dataComes_L328 (Q : Sg → Prop) (x6 : Int32) (x8 : Int32) (x9 : Int32) (σ : Sg) : Prop := ((x8 = 0 → wpX9_dataComes_L342 Q x6 σ) ∧ (¬ (x8 = 0) → (vp_in x6 6 ∧ ∀ σ53 : Sg, σ53 = up2 σ 39 x6.toNatClampNeg x9 → wpX9_dataComes_L342 Q x6 σ53)))
def wpX9_dataComes_L278 (Q : Sg → Prop) (x6 : Int32) (x8 : Int32) (x9 : Int32) (σ : Sg) : Prop := (vp_in x6 6 ∧ ((¬ (σ 37 x6.toNatClampNeg) = 0 → wpX9_dataComes_L328 Q x6 x8 x9 σ) ∧ ((σ 37 x6.toNatClampNeg) = 0 → (vp_in x6 6 ∧ (vp_in x6 6 ∧ (((σ 34 x6.toNatClampNeg) ≤ (σ 33 x6.toNatClampNeg) → wpX9_dataComes_L328 Q x6 x8 x9 σ) ∧ (¬ ((σ 34 x6.toNatClampNeg) ≤ (σ 33 x6.toNatClampNeg)) → (vp_in x6 6 ∧ ∀ σ49 : Sg, σ49 = up2 σ 37 x6.toNatClampNeg 6 → (vp_in x6 6 ∧ (vp_in x6 6 ∧ ∀ σ51 : Sg, σ51 = up2 σ49 36 x6.toNatClampNeg (σ49 34 x6.toNatClampNeg) → wpX9_dataComes_L328 Q x6 x8 x9 σ51))))))))))
def wpX9_dataComes_L243 (Q : Sg → Prop) (x6 : Int32) (x8 : Int32) (x9 : Int32) (σ : Sg) : Prop := (vp_in x6 6 ∧ (((σ 37 x6.toNatClampNeg) ≤ 0 → wpX9_dataComes_L278 Q x6 x8 x9 σ) ∧ (¬ ((σ 37 x6.toNatClampNeg) ≤ 0) → (vp_in x6 6 ∧ (vp_in x6 6 ∧ (((σ 33 x6.toNatClampNeg) < (σ 36 x6.toNatClampNeg) → wpX9_dataComes_L278 Q x6 x8 x9 σ) ∧ (¬ ((σ 33 x6.toNatClampNeg) < (σ 36 x6.toNatClampNeg)) → (vp_in x6 6 ∧ ∀ σ43 : Sg, σ43 = up2 σ 37 x6.toNatClampNeg 0 → wpX9_dataComes_L278 Q x6 x8 x9 σ43))))))))
def wpX9_dataComes_L156 (Q : Sg → Prop) : Nat → Int32 → Int32 → Int32 → Int32 → Int32 → Sg → Prop
  | 0, _, _, _, _, _, _ => False
  | n + 1, x1, x2, x6, x8, x9, σ => (vp_in x6 6 ∧ wpX9_isWhole x6 (σ 33 x6.toNatClampNeg) σ (fun r25 σ25 => ((r25 = 0 → (vp_in x6 6 ∧ (vp_in x6 6 ∧ (((σ25 33 x6.toNatClampNeg) ≤ (σ25 35 x6.toNatClampNeg) → wpX9_dataComes_L243 Q x6 x8 x9 σ25) ∧ (¬ ((σ25 33 x6.toNatClampNeg) ≤ (σ25 35 x6.toNatClampNeg)) → (vp_in x6 6 ∧ (vp_in x6 6 ∧ ∀ σ31 : Sg, σ31 = up2 σ25 35 x6.toNatClampNeg (σ25 33 x6.toNatClampNeg) → wpX9_dataComes_L243 Q x6 x8 x9 σ31))))))) ∧ (¬ (r25 = 0) → (vp_in x6 6 ∧ wpX9_hand x1 x2 (σ25 33 x6.toNatClampNeg) σ25 (fun σ33 => (vp_in x6 6 ∧ wpX9_clear x6 (σ33 33 x6.toNatClampNeg) σ33 (fun σ35 => (vp_in x6 6 ∧ (vp_in x6 6 ∧ ∀ σ37 : Sg, σ37 = up2 σ35 33 x6.toNatClampNeg ((σ35 33 x6.toNatClampNeg) + 1) → (wpX9_dataComes_L156 Q n) x1 x2 x6 x8 x9 σ37))))))))))
def wpX9_dataComes_L150 (Q : Sg → Prop) (x1 : Int32) (x2 : Int32) (x6 : Int32) (x8 : Int32) (x9 : Int32) (σ : Sg) : Prop := wpX9_goOn x6 σ (fun σ23 => ∃ nn, wpX9_dataComes_L156 Q nn x1 x2 x6 x8 x9 σ23)
def wpX9_dataComes_L127 (Q : Sg → Prop) (x1 : Int32) (x2 : Int32) (x6 : Int32) (x8 : Int32) (x9 : Int32) (σ : Sg) : Prop := (vp_in x6 6 ∧ ((x9 < (σ 34 x6.toNatClampNeg) → wpX9_dataComes_L150 Q x1 x2 x6 x8 x9 σ) ∧ (¬ (x9 < (σ 34 x6.toNatClampNeg)) → (vp_in x6 6 ∧ ∀ σ22 : Sg, σ22 = up2 σ 34 x6.toNatClampNeg (x9 + 1) → wpX9_dataComes_L150 Q x1 x2 x6 x8 x9 σ22))))
def wpX9_dataComes_L37 (Q : Sg → Prop) (x1 : Int32) (x2 : Int32) (c3 : Nat) (x4 : Int32) (x5 : Int32) (x6 : Int32) (z0 : Int32) (σ : Sg) : Prop := (vp_in x6 6 ∧ (vp_in (x4 + 1) 500 ∧ wpX9_meant (σ 33 x6.toNatClampNeg) ((σ c3 (x4 + 1).toNatClampNeg) &&& 63) σ (fun r9 σ9 => (vp_in x6 6 ∧ ((r9 < ((σ9 33 x6.toNatClampNeg) + 32) → wpX9_lays x6 r9 c3 x4 x5 σ9 (fun r12 σ12 => ((¬ r12 = 0 → wpX9_dataComes_L127 Q x1 x2 x6 z0 r9 σ12) ∧ (r12 = 0 → (vp_in x6 6 ∧ (vp_in x6 6 ∧ ∀ σ15 : Sg, σ15 = up2 σ12 42 x6.toNatClampNeg ((σ12 42 x6.toNatClampNeg) + 1) → wpX9_dataComes_L127 Q x1 x2 x6 z0 r9 σ15)))))) ∧ (¬ (r9 < ((σ9 33 x6.toNatClampNeg) + 32)) → (vp_in x6 6 ∧ (vp_in x6 6 ∧ ∀ σ17 : Sg, σ17 = up2 σ9 42 x6.toNatClampNeg ((σ9 42 x6.toNatClampNeg) + 1) → ((z0 = 0 → Q σ17) ∧ (¬ (z0 = 0) → (vp_in x6 6 ∧ ∀ σ19 : Sg, σ19 = up2 σ17 43 x6.toNatClampNeg 1 → Q σ19)))))))))))
def wpX9_dataComes (x1 : Int32) (x2 : Int32) (c3 : Nat) (x4 : Int32) (x5 : Int32) (σ : Sg) (Q : Sg → Prop) : Prop := wpX9_at x1 x2 σ (fun r1 σ1 => (vp_in r1 6 ∧ (vp_in r1 6 ∧ ∀ σ3 : Sg, σ3 = up2 σ1 41 r1.toNatClampNeg ((σ1 41 r1.toNatClampNeg) + 1) → (vp_in x4 500 ∧ ∀ x7_5 : Int32, x7_5 = σ3 c3 x4.toNatClampNeg → (((x7_5 &&& 32) = 0 → wpX9_dataComes_L37 Q x1 x2 c3 x4 x5 r1 0 σ3) ∧ (¬ ((x7_5 &&& 32) = 0) → wpX9_dataComes_L37 Q x1 x2 c3 x4 x5 r1 1 σ3))))))
set_option maxHeartbeats 8000000 in
set_option maxRecDepth 100000 in
theorem tX9_dataComes {l : Launch} {G : GG} {x1 : Int32} {x2 : Int32} {c3 : Nat} {x4 : Int32} {x5 : Int32} {σ : Sg} {Q : Sg → Prop} (h0 : isModel G) (hc3 : isI G 500 c3) (h : wpX9_dataComes x1 x2 c3 x4 x5 σ Q) : Kv l G yX9_dataComes (wB yX9_dataComes prog_11_method_36_code 10 none) ({ frames := 5, cells := 0, slots := 0, locals := 127 }) [.ref (ga G 0), .int x1, .int x2, .ref (ga G c3), .int x4, .int x5] σ Q := by
  refine K_of (cc := cX9_dataComes) (maxL := 10) (ret := none) (by decide) rfl (Nat.le_of_ble_eq_true rfl) ?_
  intro p e s m args below meth c ls B hH hl
  obtain ⟨hx, hb, hr, hts, hown, hlk, hml, hK, hX⟩ := B
  replace hl : lv_has ls 10 [(0, .ref (ga G 0)), (1, .int x1), (2, .int x2), (3, .ref (ga G c3)), (4, .int x4), (5, .int x5)] := hl
  have hB : ∀ w ∈ BIG, w.before args s = true := fun w h9 => hts w (List.mem_cons_of_mem _ h9)
  clear hts
  have k107 := hB _ bw4_152
  have k110 := hB _ bw4_153
  have k113 := hB _ bw4_154
  have k116 := hB _ bw4_155
  have k119 := hB _ bw4_156
  have k125 := hB _ bw4_158
  have k131 := hB _ bw4_160
  have k134 := hB _ bw4_161
  have k137 := hB _ bw4_162
  have L342 : ∀ (x6 : Int32) (σ : Sg) (H : Heap) (locs : List Loc) (ls : Array Slot), Hx G (aA G s.heap.size) s σ H locs → lv_has ls 10 [(0, .ref (ga G 0)), (6, .int x6)] → wpX9_dataComes_L342 Q x6 σ → W p l e ({ frames := 5, cells := 0, slots := 0, locals := 127 }) s m args below meth c H locs 0 0 (Zv G Q below args s) (F0 m 342 ls []) := by
    intro x6 σ H locs ls hH hl h
    unfold wpX9_dataComes_L342 at h
    refine lv_aload_n hx hb dX9_dataComes_342 rfl (lv_at hl 0 rfl) ?_
    refine lv_iload hx hb dX9_dataComes_343 (lv_at hl 1 rfl) ?_
    refine g_callVv (As := [.int x6]) (rest := []) ⟨hx, hb, hml, hown, hB⟩ hK hX aA_hA hH (c0 := 0) (tX9_asksStatus h0 h) (cwV 1 hB gVX9_347 rfl rfl rfl (by decide +kernel) ⟨Nat.le_of_ble_eq_true rfl, Nat.le_of_ble_eq_true rfl⟩) h0.1 rfl rfl hl.1 rfl (lv_room (Nat.le_of_ble_eq_true rfl)) ⟨Nat.zero_le _, Nat.zero_le _⟩ dX9_dataComes_345 (fun σ54 H locs h hH => ?_)
    exact g_vret hx hb hr hK hlk h hH dX9_dataComes_348
  have L328 : ∀ (x6 : Int32) (x8 : Int32) (x9 : Int32) (σ : Sg) (H : Heap) (locs : List Loc) (ls : Array Slot), Hx G (aA G s.heap.size) s σ H locs → lv_has ls 10 [(0, .ref (ga G 0)), (6, .int x6), (8, .int x8), (9, .int x9)] → wpX9_dataComes_L328 Q x6 x8 x9 σ → W p l e ({ frames := 5, cells := 0, slots := 0, locals := 127 }) s m args below meth c H locs 0 0 (Zv G Q below args s) (F0 m 328 ls []) := by
    intro x6 x8 x9 σ H locs ls hH hl h
    unfold wpX9_dataComes_L328 at h
    refine lv_iload hx hb dX9_dataComes_328 (lv_at hl 2 rfl) ?_
    refine lv_if_eq (tgt := 342) hx hb dX9_dataComes_330 (by decide) (fun q52 => ?_) (fun q52 => ?_)
    · replace h := h.1 q52
      exact L342 x6 σ _ _ ls hH (lv_sub hl [0, 1] rfl) h
    · replace h := h.2 q52
      refine lv_aload_n hx hb dX9_dataComes_333 rfl (lv_at hl 0 rfl) ?_
      refine g_getr hx hb hB inB9 hown hK hH (c0 := 0) h0.1 rfl 48 (by decide) k125 rfl (c1 := 39) rfl dX9_dataComes_334 ?_
      refine lv_iload hx hb dX9_dataComes_337 (lv_at hl 1 rfl) ?_
      refine lv_iload hx hb dX9_dataComes_339 (lv_at hl 3 rfl) ?_
      obtain ⟨hi53, h⟩ := h
      refine g_iast hx hb hK hH (c0 := 39) (i := x6) (mA39 h0) hi53 dX9_dataComes_341 (fun σ53 eσ53 H locs hH => ?_)
      replace h := h σ53 eσ53
      exact L342 x6 σ53 _ _ ls hH (lv_sub hl [0, 1] rfl) h
  have L278 : ∀ (x6 : Int32) (x8 : Int32) (x9 : Int32) (σ : Sg) (H : Heap) (locs : List Loc) (ls : Array Slot), Hx G (aA G s.heap.size) s σ H locs → lv_has ls 10 [(0, .ref (ga G 0)), (6, .int x6), (8, .int x8), (9, .int x9)] → wpX9_dataComes_L278 Q x6 x8 x9 σ → W p l e ({ frames := 5, cells := 0, slots := 0, locals := 127 }) s m args below meth c H locs 0 0 (Zv G Q below args s) (F0 m 278 ls []) := by
    intro x6 x8 x9 σ H locs ls hH hl h
    unfold wpX9_dataComes_L278 at h
    refine lv_aload_n hx hb dX9_dataComes_278 rfl (lv_at hl 0 rfl) ?_
    refine g_getr hx hb hB inB9 hown hK hH (c0 := 0) h0.1 rfl 46 (by decide) k119 rfl (c1 := 37) rfl dX9_dataComes_279 ?_
    refine lv_iload hx hb dX9_dataComes_282 (lv_at hl 1 rfl) ?_
    obtain ⟨hi44, h⟩ := h
    refine g_iald hx hb hK hH (c0 := 37) (mA37 h0) hi44 dX9_dataComes_284 ?_
    refine lv_if_ne (tgt := 328) hx hb dX9_dataComes_285 (by decide) (fun q45 => ?_) (fun q45 => ?_)
    · replace h := h.1 q45
      exact L328 x6 x8 x9 σ _ _ ls hH (lv_sub hl [0, 1, 2, 3] rfl) h
    · replace h := h.2 q45
      refine lv_aload_n hx hb dX9_dataComes_288 rfl (lv_at hl 0 rfl) ?_
      refine g_getr hx hb hB inB9 hown hK hH (c0 := 0) h0.1 rfl 43 (by decide) k110 rfl (c1 := 34) rfl dX9_dataComes_289 ?_
      refine lv_iload hx hb dX9_dataComes_292 (lv_at hl 1 rfl) ?_
      obtain ⟨hi46, h⟩ := h
      refine g_iald hx hb hK hH (c0 := 34) (mA34 h0) hi46 dX9_dataComes_294 ?_
      refine lv_aload_n hx hb dX9_dataComes_295 rfl (lv_at hl 0 rfl) ?_
      refine g_getr hx hb hB inB9 hown hK hH (c0 := 0) h0.1 rfl 42 (by decide) k107 rfl (c1 := 33) rfl dX9_dataComes_296 ?_
      refine lv_iload hx hb dX9_dataComes_299 (lv_at hl 1 rfl) ?_
      obtain ⟨hi47, h⟩ := h
      refine g_iald hx hb hK hH (c0 := 33) (mA33 h0) hi47 dX9_dataComes_301 ?_
      refine lv_icmp_le (tgt := 328) hx hb dX9_dataComes_302 (by decide) (fun q48 => ?_) (fun q48 => ?_)
      · replace h := h.1 q48
        exact L328 x6 x8 x9 σ _ _ ls hH (lv_sub hl [0, 1, 2, 3] rfl) h
      · replace h := h.2 q48
        refine lv_aload_n hx hb dX9_dataComes_305 rfl (lv_at hl 0 rfl) ?_
        refine g_getr hx hb hB inB9 hown hK hH (c0 := 0) h0.1 rfl 46 (by decide) k119 rfl (c1 := 37) rfl dX9_dataComes_306 ?_
        refine lv_iload hx hb dX9_dataComes_309 (lv_at hl 1 rfl) ?_
        refine lv_bipush (v := 6) hx hb dX9_dataComes_311 (by decide) ?_
        obtain ⟨hi49, h⟩ := h
        refine g_iast hx hb hK hH (c0 := 37) (i := x6) (mA37 h0) hi49 dX9_dataComes_313 (fun σ49 eσ49 H locs hH => ?_)
        replace h := h σ49 eσ49
        refine lv_aload_n hx hb dX9_dataComes_314 rfl (lv_at hl 0 rfl) ?_
        refine g_getr hx hb hB inB9 hown hK hH (c0 := 0) h0.1 rfl 45 (by decide) k116 rfl (c1 := 36) rfl dX9_dataComes_315 ?_
        refine lv_iload hx hb dX9_dataComes_318 (lv_at hl 1 rfl) ?_
        refine lv_aload_n hx hb dX9_dataComes_320 rfl (lv_at hl 0 rfl) ?_
        refine g_getr hx hb hB inB9 hown hK hH (c0 := 0) h0.1 rfl 43 (by decide) k110 rfl (c1 := 34) rfl dX9_dataComes_321 ?_
        refine lv_iload hx hb dX9_dataComes_324 (lv_at hl 1 rfl) ?_
        obtain ⟨hi50, h⟩ := h
        refine g_iald hx hb hK hH (c0 := 34) (mA34 h0) hi50 dX9_dataComes_326 ?_
        obtain ⟨hi51, h⟩ := h
        refine g_iast hx hb hK hH (c0 := 36) (i := x6) (mA36 h0) hi51 dX9_dataComes_327 (fun σ51 eσ51 H locs hH => ?_)
        replace h := h σ51 eσ51
        exact L328 x6 x8 x9 σ51 _ _ ls hH (lv_sub hl [0, 1, 2, 3] rfl) h
  have L243 : ∀ (x6 : Int32) (x8 : Int32) (x9 : Int32) (σ : Sg) (H : Heap) (locs : List Loc) (ls : Array Slot), Hx G (aA G s.heap.size) s σ H locs → lv_has ls 10 [(0, .ref (ga G 0)), (6, .int x6), (8, .int x8), (9, .int x9)] → wpX9_dataComes_L243 Q x6 x8 x9 σ → W p l e ({ frames := 5, cells := 0, slots := 0, locals := 127 }) s m args below meth c H locs 0 0 (Zv G Q below args s) (F0 m 243 ls []) := by
    intro x6 x8 x9 σ H locs ls hH hl h
    unfold wpX9_dataComes_L243 at h
    refine lv_aload_n hx hb dX9_dataComes_243 rfl (lv_at hl 0 rfl) ?_
    refine g_getr hx hb hB inB9 hown hK hH (c0 := 0) h0.1 rfl 46 (by decide) k119 rfl (c1 := 37) rfl dX9_dataComes_244 ?_
    refine lv_iload hx hb dX9_dataComes_247 (lv_at hl 1 rfl) ?_
    obtain ⟨hi38, h⟩ := h
    refine g_iald hx hb hK hH (c0 := 37) (mA37 h0) hi38 dX9_dataComes_249 ?_
    refine lv_if_le (tgt := 278) hx hb dX9_dataComes_250 (by decide) (fun q39 => ?_) (fun q39 => ?_)
    · replace h := h.1 q39
      exact L278 x6 x8 x9 σ _ _ ls hH (lv_sub hl [0, 1, 2, 3] rfl) h
    · replace h := h.2 q39
      refine lv_aload_n hx hb dX9_dataComes_253 rfl (lv_at hl 0 rfl) ?_
      refine g_getr hx hb hB inB9 hown hK hH (c0 := 0) h0.1 rfl 45 (by decide) k116 rfl (c1 := 36) rfl dX9_dataComes_254 ?_
      refine lv_iload hx hb dX9_dataComes_257 (lv_at hl 1 rfl) ?_
      obtain ⟨hi40, h⟩ := h
      refine g_iald hx hb hK hH (c0 := 36) (mA36 h0) hi40 dX9_dataComes_259 ?_
      refine lv_aload_n hx hb dX9_dataComes_260 rfl (lv_at hl 0 rfl) ?_
      refine g_getr hx hb hB inB9 hown hK hH (c0 := 0) h0.1 rfl 42 (by decide) k107 rfl (c1 := 33) rfl dX9_dataComes_261 ?_
      refine lv_iload hx hb dX9_dataComes_264 (lv_at hl 1 rfl) ?_
      obtain ⟨hi41, h⟩ := h
      refine g_iald hx hb hK hH (c0 := 33) (mA33 h0) hi41 dX9_dataComes_266 ?_
      refine lv_icmp_gt (tgt := 278) hx hb dX9_dataComes_267 (by decide) (fun q42 => ?_) (fun q42 => ?_)
      · replace h := h.1 q42
        exact L278 x6 x8 x9 σ _ _ ls hH (lv_sub hl [0, 1, 2, 3] rfl) h
      · replace h := h.2 q42
        refine lv_aload_n hx hb dX9_dataComes_270 rfl (lv_at hl 0 rfl) ?_
        refine g_getr hx hb hB inB9 hown hK hH (c0 := 0) h0.1 rfl 46 (by decide) k119 rfl (c1 := 37) rfl dX9_dataComes_271 ?_
        refine lv_iload hx hb dX9_dataComes_274 (lv_at hl 1 rfl) ?_
        refine lv_iconst (v := 0) hx hb dX9_dataComes_276 (by decide) ?_
        obtain ⟨hi43, h⟩ := h
        refine g_iast hx hb hK hH (c0 := 37) (i := x6) (mA37 h0) hi43 dX9_dataComes_277 (fun σ43 eσ43 H locs hH => ?_)
        replace h := h σ43 eσ43
        exact L278 x6 x8 x9 σ43 _ _ ls hH (lv_sub hl [0, 1, 2, 3] rfl) h
  have L156 : ∀ (n156 : Nat) (x1 : Int32) (x2 : Int32) (x6 : Int32) (x8 : Int32) (x9 : Int32) (σ : Sg) (H : Heap) (locs : List Loc) (ls : Array Slot), Hx G (aA G s.heap.size) s σ H locs → lv_has ls 10 [(0, .ref (ga G 0)), (1, .int x1), (2, .int x2), (6, .int x6), (8, .int x8), (9, .int x9)] → wpX9_dataComes_L156 Q n156 x1 x2 x6 x8 x9 σ → W p l e ({ frames := 5, cells := 0, slots := 0, locals := 127 }) s m args below meth c H locs 0 0 (Zv G Q below args s) (F0 m 156 ls []) := by
    intro n156
    induction n156 with
    | zero =>
      intro x1 x2 x6 x8 x9 σ H locs ls hH hl h
      exact False.elim h
    | succ n156 ih156 =>
      intro x1 x2 x6 x8 x9 σ H locs ls hH hl h
      unfold wpX9_dataComes_L156 at h
      refine lv_aload_n hx hb dX9_dataComes_156 rfl (lv_at hl 0 rfl) ?_
      refine lv_iload hx hb dX9_dataComes_157 (lv_at hl 3 rfl) ?_
      refine lv_aload_n hx hb dX9_dataComes_159 rfl (lv_at hl 0 rfl) ?_
      refine g_getr hx hb hB inB9 hown hK hH (c0 := 0) h0.1 rfl 42 (by decide) k107 rfl (c1 := 33) rfl dX9_dataComes_160 ?_
      refine lv_iload hx hb dX9_dataComes_163 (lv_at hl 3 rfl) ?_
      obtain ⟨hi24, h⟩ := h
      refine g_iald hx hb hK hH (c0 := 33) (mA33 h0) hi24 dX9_dataComes_165 ?_
      refine g_callVi (As := [.int x6, .int (σ 33 x6.toNatClampNeg)]) (rest := []) ⟨hx, hb, hml, hown, hB⟩ hK hX aA_hA hH (c0 := 0) (tX9_isWhole h0 h) (cwV 2 hB gVX9_306 rfl rfl rfl (by decide +kernel) ⟨Nat.le_of_ble_eq_true rfl, Nat.le_of_ble_eq_true rfl⟩) h0.1 rfl rfl hl.1 rfl (lv_room (Nat.le_of_ble_eq_true rfl)) ⟨Nat.zero_le _, Nat.zero_le _⟩ dX9_dataComes_166 (fun r25 σ25 H locs h hH => ?_)
      refine lv_if_eq (tgt := 212) hx hb dX9_dataComes_169 (by decide) (fun q26 => ?_) (fun q26 => ?_)
      · replace h := h.1 q26
        refine lv_aload_n hx hb dX9_dataComes_212 rfl (lv_at hl 0 rfl) ?_
        refine g_getr hx hb hB inB9 hown hK hH (c0 := 0) h0.1 rfl 44 (by decide) k113 rfl (c1 := 35) rfl dX9_dataComes_213 ?_
        refine lv_iload hx hb dX9_dataComes_216 (lv_at hl 3 rfl) ?_
        obtain ⟨hi27, h⟩ := h
        refine g_iald hx hb hK hH (c0 := 35) (mA35 h0) hi27 dX9_dataComes_218 ?_
        refine lv_aload_n hx hb dX9_dataComes_219 rfl (lv_at hl 0 rfl) ?_
        refine g_getr hx hb hB inB9 hown hK hH (c0 := 0) h0.1 rfl 42 (by decide) k107 rfl (c1 := 33) rfl dX9_dataComes_220 ?_
        refine lv_iload hx hb dX9_dataComes_223 (lv_at hl 3 rfl) ?_
        obtain ⟨hi28, h⟩ := h
        refine g_iald hx hb hK hH (c0 := 33) (mA33 h0) hi28 dX9_dataComes_225 ?_
        refine lv_icmp_ge (tgt := 243) hx hb dX9_dataComes_226 (by decide) (fun q29 => ?_) (fun q29 => ?_)
        · replace h := h.1 q29
          exact L243 x6 x8 x9 σ25 _ _ ls hH (lv_sub hl [0, 3, 4, 5] rfl) h
        · replace h := h.2 q29
          refine lv_aload_n hx hb dX9_dataComes_229 rfl (lv_at hl 0 rfl) ?_
          refine g_getr hx hb hB inB9 hown hK hH (c0 := 0) h0.1 rfl 44 (by decide) k113 rfl (c1 := 35) rfl dX9_dataComes_230 ?_
          refine lv_iload hx hb dX9_dataComes_233 (lv_at hl 3 rfl) ?_
          refine lv_aload_n hx hb dX9_dataComes_235 rfl (lv_at hl 0 rfl) ?_
          refine g_getr hx hb hB inB9 hown hK hH (c0 := 0) h0.1 rfl 42 (by decide) k107 rfl (c1 := 33) rfl dX9_dataComes_236 ?_
          refine lv_iload hx hb dX9_dataComes_239 (lv_at hl 3 rfl) ?_
          obtain ⟨hi30, h⟩ := h
          refine g_iald hx hb hK hH (c0 := 33) (mA33 h0) hi30 dX9_dataComes_241 ?_
          obtain ⟨hi31, h⟩ := h
          refine g_iast hx hb hK hH (c0 := 35) (i := x6) (mA35 h0) hi31 dX9_dataComes_242 (fun σ31 eσ31 H locs hH => ?_)
          replace h := h σ31 eσ31
          exact L243 x6 x8 x9 σ31 _ _ ls hH (lv_sub hl [0, 3, 4, 5] rfl) h
      · replace h := h.2 q26
        refine lv_aload_n hx hb dX9_dataComes_172 rfl (lv_at hl 0 rfl) ?_
        refine lv_iload_n hx hb dX9_dataComes_173 rfl (lv_at hl 1 rfl) ?_
        refine lv_iload_n hx hb dX9_dataComes_174 rfl (lv_at hl 2 rfl) ?_
        refine lv_aload_n hx hb dX9_dataComes_175 rfl (lv_at hl 0 rfl) ?_
        refine g_getr hx hb hB inB9 hown hK hH (c0 := 0) h0.1 rfl 42 (by decide) k107 rfl (c1 := 33) rfl dX9_dataComes_176 ?_
        refine lv_iload hx hb dX9_dataComes_179 (lv_at hl 3 rfl) ?_
        obtain ⟨hi32, h⟩ := h
        refine g_iald hx hb hK hH (c0 := 33) (mA33 h0) hi32 dX9_dataComes_181 ?_
        refine g_callVv (As := [.int x1, .int x2, .int (σ25 33 x6.toNatClampNeg)]) (rest := []) ⟨hx, hb, hml, hown, hB⟩ hK hX aA_hA hH (c0 := 0) (tX9_hand h0 h) (cwV 3 hB gVX9_341 rfl rfl rfl (by decide +kernel) ⟨Nat.le_of_ble_eq_true rfl, Nat.le_of_ble_eq_true rfl⟩) h0.1 rfl rfl hl.1 rfl (lv_room (Nat.le_of_ble_eq_true rfl)) ⟨Nat.zero_le _, Nat.zero_le _⟩ dX9_dataComes_182 (fun σ33 H locs h hH => ?_)
        refine lv_aload_n hx hb dX9_dataComes_185 rfl (lv_at hl 0 rfl) ?_
        refine lv_iload hx hb dX9_dataComes_186 (lv_at hl 3 rfl) ?_
        refine lv_aload_n hx hb dX9_dataComes_188 rfl (lv_at hl 0 rfl) ?_
        refine g_getr hx hb hB inB9 hown hK hH (c0 := 0) h0.1 rfl 42 (by decide) k107 rfl (c1 := 33) rfl dX9_dataComes_189 ?_
        refine lv_iload hx hb dX9_dataComes_192 (lv_at hl 3 rfl) ?_
        obtain ⟨hi34, h⟩ := h
        refine g_iald hx hb hK hH (c0 := 33) (mA33 h0) hi34 dX9_dataComes_194 ?_
        refine g_callVv (As := [.int x6, .int (σ33 33 x6.toNatClampNeg)]) (rest := []) ⟨hx, hb, hml, hown, hB⟩ hK hX aA_hA hH (c0 := 0) (tX9_clear h0 h) (cwV 2 hB gVX9_344 rfl rfl rfl (by decide +kernel) ⟨Nat.le_of_ble_eq_true rfl, Nat.le_of_ble_eq_true rfl⟩) h0.1 rfl rfl hl.1 rfl (lv_room (Nat.le_of_ble_eq_true rfl)) ⟨Nat.zero_le _, Nat.zero_le _⟩ dX9_dataComes_195 (fun σ35 H locs h hH => ?_)
        refine lv_aload_n hx hb dX9_dataComes_198 rfl (lv_at hl 0 rfl) ?_
        refine g_getr hx hb hB inB9 hown hK hH (c0 := 0) h0.1 rfl 42 (by decide) k107 rfl (c1 := 33) rfl dX9_dataComes_199 ?_
        refine lv_iload hx hb dX9_dataComes_202 (lv_at hl 3 rfl) ?_
        refine lv_dup2_11 hx hb dX9_dataComes_204 rfl rfl ?_
        obtain ⟨hi36, h⟩ := h
        refine g_iald hx hb hK hH (c0 := 33) (mA33 h0) hi36 dX9_dataComes_205 ?_
        refine lv_iconst (v := 1) hx hb dX9_dataComes_206 (by decide) ?_
        refine lv_iadd hx hb dX9_dataComes_207 ?_
        obtain ⟨hi37, h⟩ := h
        refine g_iast hx hb hK hH (c0 := 33) (i := x6) (mA33 h0) hi37 dX9_dataComes_208 (fun σ37 eσ37 H locs hH => ?_)
        replace h := h σ37 eσ37
        refine lv_goto (tgt := 156) hx hb dX9_dataComes_209 (by decide) ?_
        exact ih156 x1 x2 x6 x8 x9 σ37 _ _ ls hH (lv_sub hl [0, 1, 2, 3, 4, 5] rfl) h
  have L150 : ∀ (x1 : Int32) (x2 : Int32) (x6 : Int32) (x8 : Int32) (x9 : Int32) (σ : Sg) (H : Heap) (locs : List Loc) (ls : Array Slot), Hx G (aA G s.heap.size) s σ H locs → lv_has ls 10 [(0, .ref (ga G 0)), (1, .int x1), (2, .int x2), (6, .int x6), (8, .int x8), (9, .int x9)] → wpX9_dataComes_L150 Q x1 x2 x6 x8 x9 σ → W p l e ({ frames := 5, cells := 0, slots := 0, locals := 127 }) s m args below meth c H locs 0 0 (Zv G Q below args s) (F0 m 150 ls []) := by
    intro x1 x2 x6 x8 x9 σ H locs ls hH hl h
    unfold wpX9_dataComes_L150 at h
    refine lv_aload_n hx hb dX9_dataComes_150 rfl (lv_at hl 0 rfl) ?_
    refine lv_iload hx hb dX9_dataComes_151 (lv_at hl 3 rfl) ?_
    refine g_callVv (As := [.int x6]) (rest := []) ⟨hx, hb, hml, hown, hB⟩ hK hX aA_hA hH (c0 := 0) (tX9_goOn h0 h) (cwV 1 hB gVX9_337 rfl rfl rfl (by decide +kernel) ⟨Nat.le_of_ble_eq_true rfl, Nat.le_of_ble_eq_true rfl⟩) h0.1 rfl rfl hl.1 rfl (lv_room (Nat.le_of_ble_eq_true rfl)) ⟨Nat.zero_le _, Nat.zero_le _⟩ dX9_dataComes_153 (fun σ23 H locs h hH => ?_)
    obtain ⟨nn, h⟩ := h
    exact L156 nn x1 x2 x6 x8 x9 σ23 _ _ ls hH (lv_sub hl [0, 1, 2, 3, 4, 5] rfl) h
  have L127 : ∀ (x1 : Int32) (x2 : Int32) (x6 : Int32) (x8 : Int32) (x9 : Int32) (σ : Sg) (H : Heap) (locs : List Loc) (ls : Array Slot), Hx G (aA G s.heap.size) s σ H locs → lv_has ls 10 [(0, .ref (ga G 0)), (1, .int x1), (2, .int x2), (6, .int x6), (8, .int x8), (9, .int x9)] → wpX9_dataComes_L127 Q x1 x2 x6 x8 x9 σ → W p l e ({ frames := 5, cells := 0, slots := 0, locals := 127 }) s m args below meth c H locs 0 0 (Zv G Q below args s) (F0 m 127 ls []) := by
    intro x1 x2 x6 x8 x9 σ H locs ls hH hl h
    unfold wpX9_dataComes_L127 at h
    refine lv_iload hx hb dX9_dataComes_127 (lv_at hl 5 rfl) ?_
    refine lv_aload_n hx hb dX9_dataComes_129 rfl (lv_at hl 0 rfl) ?_
    refine g_getr hx hb hB inB9 hown hK hH (c0 := 0) h0.1 rfl 43 (by decide) k110 rfl (c1 := 34) rfl dX9_dataComes_130 ?_
    refine lv_iload hx hb dX9_dataComes_133 (lv_at hl 3 rfl) ?_
    obtain ⟨hi20, h⟩ := h
    refine g_iald hx hb hK hH (c0 := 34) (mA34 h0) hi20 dX9_dataComes_135 ?_
    refine lv_icmp_lt (tgt := 150) hx hb dX9_dataComes_136 (by decide) (fun q21 => ?_) (fun q21 => ?_)
    · replace h := h.1 q21
      exact L150 x1 x2 x6 x8 x9 σ _ _ ls hH (lv_sub hl [0, 1, 2, 3, 4, 5] rfl) h
    · replace h := h.2 q21
      refine lv_aload_n hx hb dX9_dataComes_139 rfl (lv_at hl 0 rfl) ?_
      refine g_getr hx hb hB inB9 hown hK hH (c0 := 0) h0.1 rfl 43 (by decide) k110 rfl (c1 := 34) rfl dX9_dataComes_140 ?_
      refine lv_iload hx hb dX9_dataComes_143 (lv_at hl 3 rfl) ?_
      refine lv_iload hx hb dX9_dataComes_145 (lv_at hl 5 rfl) ?_
      refine lv_iconst (v := 1) hx hb dX9_dataComes_147 (by decide) ?_
      refine lv_iadd hx hb dX9_dataComes_148 ?_
      obtain ⟨hi22, h⟩ := h
      refine g_iast hx hb hK hH (c0 := 34) (i := x6) (mA34 h0) hi22 dX9_dataComes_149 (fun σ22 eσ22 H locs hH => ?_)
      replace h := h σ22 eσ22
      exact L150 x1 x2 x6 x8 x9 σ22 _ _ ls hH (lv_sub hl [0, 1, 2, 3, 4, 5] rfl) h
  have L37 : ∀ (x1 : Int32) (x2 : Int32) (c3 : Nat) (hc3 : isI G 500 c3) (x4 : Int32) (x5 : Int32) (x6 : Int32) (z0 : Int32) (σ : Sg) (H : Heap) (locs : List Loc) (ls : Array Slot), Hx G (aA G s.heap.size) s σ H locs → lv_has ls 10 [(0, .ref (ga G 0)), (1, .int x1), (2, .int x2), (3, .ref (ga G c3)), (4, .int x4), (5, .int x5), (6, .int x6)] → wpX9_dataComes_L37 Q x1 x2 c3 x4 x5 x6 z0 σ → W p l e ({ frames := 5, cells := 0, slots := 0, locals := 127 }) s m args below meth c H locs 0 0 (Zv G Q below args s) (F0 m 37 ls [.int z0]) := by
    intro x1 x2 c3 hc3 x4 x5 x6 z0 σ H locs ls hH hl h
    unfold wpX9_dataComes_L37 at h
    refine lv_istore (lv' := [(8, .int z0), (0, .ref (ga G 0)), (1, .int x1), (2, .int x2), (3, .ref (ga G c3)), (4, .int x4), (5, .int x5), (6, .int x6)]) hx hb dX9_dataComes_37 hl (by decide) rfl (fun ls hl => ?_)
    refine lv_aload_n hx hb dX9_dataComes_39 rfl (lv_at hl 1 rfl) ?_
    refine g_getr hx hb hB inB9 hown hK hH (c0 := 0) h0.1 rfl 42 (by decide) k107 rfl (c1 := 33) rfl dX9_dataComes_40 ?_
    refine lv_iload hx hb dX9_dataComes_43 (lv_at hl 7 rfl) ?_
    obtain ⟨hi7, h⟩ := h
    refine g_iald hx hb hK hH (c0 := 33) (mA33 h0) hi7 dX9_dataComes_45 ?_
    refine lv_aload_n hx hb dX9_dataComes_46 rfl (lv_at hl 4 rfl) ?_
    refine lv_iload hx hb dX9_dataComes_47 (lv_at hl 5 rfl) ?_
    refine lv_iconst (v := 1) hx hb dX9_dataComes_49 (by decide) ?_
    refine lv_iadd hx hb dX9_dataComes_50 ?_
    obtain ⟨hi8, h⟩ := h
    refine g_iald hx hb hK hH (c0 := c3) hc3 hi8 dX9_dataComes_51 ?_
    refine lv_bipush (v := 63) hx hb dX9_dataComes_52 (by decide) ?_
    refine lv_iand hx hb dX9_dataComes_54 ?_
    refine g_callSi (As := [.int (σ 33 x6.toNatClampNeg), .int ((σ c3 (x4 + 1).toNatClampNeg) &&& 63)]) (rest := []) ⟨hx, hb, hml, hown, hB⟩ hK hX aA_hA hH (tX9_meant h) (va_cwS 2 hB gSX9_316 rfl rfl rfl (by decide +kernel) ⟨Nat.le_of_ble_eq_true rfl, Nat.le_of_ble_eq_true rfl⟩) rfl hl.1 rfl (lv_room (Nat.le_of_ble_eq_true rfl)) ⟨Nat.zero_le _, Nat.zero_le _⟩ dX9_dataComes_55 (fun r9 σ9 H locs h hH => ?_)
    refine lv_istore (lv' := [(9, .int r9), (8, .int z0), (0, .ref (ga G 0)), (1, .int x1), (2, .int x2), (3, .ref (ga G c3)), (4, .int x4), (5, .int x5), (6, .int x6)]) hx hb dX9_dataComes_58 hl (by decide) rfl (fun ls hl => ?_)
    refine lv_iload hx hb dX9_dataComes_60 (lv_at hl 0 rfl) ?_
    refine lv_aload_n hx hb dX9_dataComes_62 rfl (lv_at hl 2 rfl) ?_
    refine g_getr hx hb hB inB9 hown hK hH (c0 := 0) h0.1 rfl 42 (by decide) k107 rfl (c1 := 33) rfl dX9_dataComes_63 ?_
    refine lv_iload hx hb dX9_dataComes_66 (lv_at hl 8 rfl) ?_
    obtain ⟨hi10, h⟩ := h
    refine g_iald hx hb hK hH (c0 := 33) (mA33 h0) hi10 dX9_dataComes_68 ?_
    refine lv_bipush (v := 32) hx hb dX9_dataComes_69 (by decide) ?_
    refine lv_iadd hx hb dX9_dataComes_71 ?_
    refine lv_icmp_lt (tgt := 100) hx hb dX9_dataComes_72 (by decide) (fun q11 => ?_) (fun q11 => ?_)
    · replace h := h.1 q11
      refine lv_aload_n hx hb dX9_dataComes_100 rfl (lv_at hl 2 rfl) ?_
      refine lv_iload hx hb dX9_dataComes_101 (lv_at hl 8 rfl) ?_
      refine lv_iload hx hb dX9_dataComes_103 (lv_at hl 0 rfl) ?_
      refine lv_aload_n hx hb dX9_dataComes_105 rfl (lv_at hl 5 rfl) ?_
      refine lv_iload hx hb dX9_dataComes_106 (lv_at hl 6 rfl) ?_
      refine lv_iload hx hb dX9_dataComes_108 (lv_at hl 7 rfl) ?_
      refine g_callVi (As := [.int x6, .int r9, .ref (ga G c3), .int x4, .int x5]) (rest := []) ⟨hx, hb, hml, hown, hB⟩ hK hX aA_hA hH (c0 := 0) (tX9_lays h0 hc3 h) (cwV 5 hB gVX9_333 rfl rfl rfl (by decide +kernel) ⟨Nat.le_of_ble_eq_true rfl, Nat.le_of_ble_eq_true rfl⟩) h0.1 rfl rfl hl.1 rfl (lv_room (Nat.le_of_ble_eq_true rfl)) ⟨Nat.zero_le _, Nat.zero_le _⟩ dX9_dataComes_110 (fun r12 σ12 H locs h hH => ?_)
      refine lv_if_ne (tgt := 127) hx hb dX9_dataComes_113 (by decide) (fun q13 => ?_) (fun q13 => ?_)
      · replace h := h.1 q13
        exact L127 x1 x2 x6 z0 r9 σ12 _ _ ls hH (lv_sub hl [2, 3, 4, 8, 1, 0] rfl) h
      · replace h := h.2 q13
        refine lv_aload_n hx hb dX9_dataComes_116 rfl (lv_at hl 2 rfl) ?_
        refine g_getr hx hb hB inB9 hown hK hH (c0 := 0) h0.1 rfl 51 (by decide) k134 rfl (c1 := 42) rfl dX9_dataComes_117 ?_
        refine lv_iload hx hb dX9_dataComes_120 (lv_at hl 8 rfl) ?_
        refine lv_dup2_11 hx hb dX9_dataComes_122 rfl rfl ?_
        obtain ⟨hi14, h⟩ := h
        refine g_iald hx hb hK hH (c0 := 42) (mA42 h0) hi14 dX9_dataComes_123 ?_
        refine lv_iconst (v := 1) hx hb dX9_dataComes_124 (by decide) ?_
        refine lv_iadd hx hb dX9_dataComes_125 ?_
        obtain ⟨hi15, h⟩ := h
        refine g_iast hx hb hK hH (c0 := 42) (i := x6) (mA42 h0) hi15 dX9_dataComes_126 (fun σ15 eσ15 H locs hH => ?_)
        replace h := h σ15 eσ15
        exact L127 x1 x2 x6 z0 r9 σ15 _ _ ls hH (lv_sub hl [2, 3, 4, 8, 1, 0] rfl) h
    · replace h := h.2 q11
      refine lv_aload_n hx hb dX9_dataComes_75 rfl (lv_at hl 2 rfl) ?_
      refine g_getr hx hb hB inB9 hown hK hH (c0 := 0) h0.1 rfl 51 (by decide) k134 rfl (c1 := 42) rfl dX9_dataComes_76 ?_
      refine lv_iload hx hb dX9_dataComes_79 (lv_at hl 8 rfl) ?_
      refine lv_dup2_11 hx hb dX9_dataComes_81 rfl rfl ?_
      obtain ⟨hi16, h⟩ := h
      refine g_iald hx hb hK hH (c0 := 42) (mA42 h0) hi16 dX9_dataComes_82 ?_
      refine lv_iconst (v := 1) hx hb dX9_dataComes_83 (by decide) ?_
      refine lv_iadd hx hb dX9_dataComes_84 ?_
      obtain ⟨hi17, h⟩ := h
      refine g_iast hx hb hK hH (c0 := 42) (i := x6) (mA42 h0) hi17 dX9_dataComes_85 (fun σ17 eσ17 H locs hH => ?_)
      replace h := h σ17 eσ17
      refine lv_iload hx hb dX9_dataComes_86 (lv_at hl 1 rfl) ?_
      refine lv_if_eq (tgt := 99) hx hb dX9_dataComes_88 (by decide) (fun q18 => ?_) (fun q18 => ?_)
      · replace h := h.1 q18
        exact g_vret hx hb hr hK hlk h hH dX9_dataComes_99
      · replace h := h.2 q18
        refine lv_aload_n hx hb dX9_dataComes_91 rfl (lv_at hl 2 rfl) ?_
        refine g_getr hx hb hB inB9 hown hK hH (c0 := 0) h0.1 rfl 52 (by decide) k137 rfl (c1 := 43) rfl dX9_dataComes_92 ?_
        refine lv_iload hx hb dX9_dataComes_95 (lv_at hl 8 rfl) ?_
        refine lv_iconst (v := 1) hx hb dX9_dataComes_97 (by decide) ?_
        obtain ⟨hi19, h⟩ := h
        refine g_zast hx hb hK hH (c0 := 43) (i := x6) (mA43 h0) vz1 hi19 dX9_dataComes_98 (fun σ19 eσ19 H locs hH => ?_)
        replace h := h σ19 eσ19
        exact g_vret hx hb hr hK hlk h hH dX9_dataComes_99
  unfold wpX9_dataComes at h
  refine lv_iload_n hx hb dX9_dataComes_0 rfl (lv_at hl 1 rfl) ?_
  refine lv_iload_n hx hb dX9_dataComes_1 rfl (lv_at hl 2 rfl) ?_
  refine g_callSi (As := [.int x1, .int x2]) (rest := []) ⟨hx, hb, hml, hown, hB⟩ hK hX aA_hA hH (tX9_at h) (va_cwS 2 hB gSX9_258 rfl rfl rfl (by decide +kernel) ⟨Nat.le_of_ble_eq_true rfl, Nat.le_of_ble_eq_true rfl⟩) rfl hl.1 rfl (lv_room (Nat.le_of_ble_eq_true rfl)) ⟨Nat.zero_le _, Nat.zero_le _⟩ dX9_dataComes_2 (fun r1 σ1 H locs h hH => ?_)
  refine lv_istore (lv' := [(6, .int r1), (0, .ref (ga G 0)), (1, .int x1), (2, .int x2), (3, .ref (ga G c3)), (4, .int x4), (5, .int x5)]) hx hb dX9_dataComes_5 hl (by decide) rfl (fun ls hl => ?_)
  refine lv_aload_n hx hb dX9_dataComes_7 rfl (lv_at hl 1 rfl) ?_
  refine g_getr hx hb hB inB9 hown hK hH (c0 := 0) h0.1 rfl 50 (by decide) k131 rfl (c1 := 41) rfl dX9_dataComes_8 ?_
  refine lv_iload hx hb dX9_dataComes_11 (lv_at hl 0 rfl) ?_
  refine lv_dup2_11 hx hb dX9_dataComes_13 rfl rfl ?_
  obtain ⟨hi2, h⟩ := h
  refine g_iald hx hb hK hH (c0 := 41) (mA41 h0) hi2 dX9_dataComes_14 ?_
  refine lv_iconst (v := 1) hx hb dX9_dataComes_15 (by decide) ?_
  refine lv_iadd hx hb dX9_dataComes_16 ?_
  obtain ⟨hi3, h⟩ := h
  refine g_iast hx hb hK hH (c0 := 41) (i := r1) (mA41 h0) hi3 dX9_dataComes_17 (fun σ3 eσ3 H locs hH => ?_)
  replace h := h σ3 eσ3
  refine lv_aload_n hx hb dX9_dataComes_18 rfl (lv_at hl 4 rfl) ?_
  refine lv_iload hx hb dX9_dataComes_19 (lv_at hl 5 rfl) ?_
  obtain ⟨hi4, h⟩ := h
  refine g_iald hx hb hK hH (c0 := c3) hc3 hi4 dX9_dataComes_21 ?_
  refine lv_topi (fun x7_5 ex7_5 => ?_)
  replace h := h x7_5 ex7_5
  refine lv_istore (lv' := [(7, .int x7_5), (6, .int r1), (0, .ref (ga G 0)), (1, .int x1), (2, .int x2), (3, .ref (ga G c3)), (4, .int x4), (5, .int x5)]) hx hb dX9_dataComes_22 hl (by decide) rfl (fun ls hl => ?_)
  refine lv_iload hx hb dX9_dataComes_24 (lv_at hl 0 rfl) ?_
  refine lv_bipush (v := 32) hx hb dX9_dataComes_26 (by decide) ?_
  refine lv_iand hx hb dX9_dataComes_28 ?_
  refine lv_if_eq (tgt := 36) hx hb dX9_dataComes_29 (by decide) (fun q6 => ?_) (fun q6 => ?_)
  · replace h := h.1 q6
    refine lv_iconst (v := 0) hx hb dX9_dataComes_36 (by decide) ?_
    exact L37 x1 x2 c3 hc3 x4 x5 r1 0 σ3 _ _ ls hH (lv_sub hl [2, 3, 4, 5, 6, 7, 1] rfl) h
  · replace h := h.2 q6
    refine lv_iconst (v := 1) hx hb dX9_dataComes_32 (by decide) ?_
    refine lv_goto (tgt := 37) hx hb dX9_dataComes_33 (by decide) ?_
    exact L37 x1 x2 c3 hc3 x4 x5 r1 1 σ3 _ _ ls hH (lv_sub hl [2, 3, 4, 5, 6, 7, 1] rfl) h
def wpX9_awaitReport_L197 (Q : Sg → Prop) (K101 : Int32 → Int32 → Int32 → Int32 → Int32 → Sg → Prop) (x1 : Int32) (x2 : Int32) (x3 : Int32) (x4 : Int32) (x5 : Int32) (z0 : Int32) (z1 : Int32) (z2 : Int32) (z3 : Int32) (z4 : Int32) (σ : Sg) : Prop := wpX9_await z4 z3 z2 z1 z0 σ (fun σ19 => ∀ x5_20 : Int32, x5_20 = x5 + 1 → K101 x1 x2 x3 x4 x5_20 σ19)
def wpX9_awaitReport_L168 (Q : Sg → Prop) (K101 : Int32 → Int32 → Int32 → Int32 → Int32 → Sg → Prop) (K114 : Int32 → Int32 → Int32 → Int32 → Int32 → Int32 → Int32 → Sg → Prop) (x1 : Int32) (x2 : Int32) (x3 : Int32) (x4 : Int32) (x5 : Int32) (x7 : Int32) (z0 : Int32) (z1 : Int32) (σ : Sg) : Prop := ∀ x6_21 : Int32, x6_21 = z1 ||| z0 → ∀ x7_22 : Int32, x7_22 = x7 + 1 → K114 x1 x2 x3 x4 x5 x6_21 x7_22 σ
def wpX9_awaitReport_L167 (Q : Sg → Prop) (K101 : Int32 → Int32 → Int32 → Int32 → Int32 → Sg → Prop) (K114 : Int32 → Int32 → Int32 → Int32 → Int32 → Int32 → Int32 → Sg → Prop) (x1 : Int32) (x2 : Int32) (x3 : Int32) (x4 : Int32) (x5 : Int32) (x7 : Int32) (z0 : Int32) (σ : Sg) : Prop := wpX9_awaitReport_L168 Q K101 K114 x1 x2 x3 x4 x5 x7 0 z0 σ
def wpX9_awaitReport_L114 (Q : Sg → Prop) (K101 : Int32 → Int32 → Int32 → Int32 → Int32 → Sg → Prop) : Nat → Int32 → Int32 → Int32 → Int32 → Int32 → Int32 → Int32 → Sg → Prop
  | 0, _, _, _, _, _, _, _, _ => False
  | n + 1, x1, x2, x3, x4, x5, x6, x7, σ => ((8 ≤ x7 → ((¬ (x5 + 1) = x4 → wpX9_awaitReport_L197 Q K101 x1 x2 x3 x4 x5 0 0 (-1) x6 x1 σ) ∧ ((x5 + 1) = x4 → wpX9_awaitReport_L197 Q K101 x1 x2 x3 x4 x5 1 0 (-1) x6 x1 σ))) ∧ (¬ (8 ≤ x7) → ∀ x8_15 : Int32, x8_15 = (8 * x5) + x7 → ((x3 ≤ x8_15 → wpX9_awaitReport_L167 Q K101 (wpX9_awaitReport_L114 Q K101 n) x1 x2 x3 x4 x5 x7 (x6 <<< ((1 : Int32) &&& 31)) σ) ∧ (¬ (x3 ≤ x8_15) → (vp_in ((32 * x1) + (((x2 + 1) + x8_15) &&& 31)) 192 ∧ (((σ 59 ((32 * x1) + (((x2 + 1) + x8_15) &&& 31)).toNatClampNeg) = 0 → wpX9_awaitReport_L167 Q K101 (wpX9_awaitReport_L114 Q K101 n) x1 x2 x3 x4 x5 x7 (x6 <<< ((1 : Int32) &&& 31)) σ) ∧ (¬ ((σ 59 ((32 * x1) + (((x2 + 1) + x8_15) &&& 31)).toNatClampNeg) = 0) → wpX9_awaitReport_L168 Q K101 (wpX9_awaitReport_L114 Q K101 n) x1 x2 x3 x4 x5 x7 1 (x6 <<< ((1 : Int32) &&& 31)) σ)))))))
def wpX9_awaitReport_L101 (Q : Sg → Prop) : Nat → Int32 → Int32 → Int32 → Int32 → Int32 → Sg → Prop
  | 0, _, _, _, _, _, _ => False
  | n + 1, x1, x2, x3, x4, x5, σ => ((x4 ≤ x5 → Q σ) ∧ (¬ (x4 ≤ x5) → ∃ nn, wpX9_awaitReport_L114 Q (wpX9_awaitReport_L101 Q n) nn x1 x2 x3 x4 x5 0 0 σ))
def wpX9_awaitReport_L95 (Q : Sg → Prop) (x1 : Int32) (x2 : Int32) (x3 : Int32) (x4 : Int32) (z0 : Int32) (z1 : Int32) (z2 : Int32) (z3 : Int32) (z4 : Int32) (σ : Sg) : Prop := wpX9_await z4 z3 z2 z1 z0 σ (fun σ10 => ∃ nn, wpX9_awaitReport_L101 Q nn x1 x2 x3 x4 0 σ10)
def wpX9_awaitReport_L46 (Q : Sg → Prop) (K12 : Int32 → Int32 → Int32 → Int32 → Sg → Prop) (x1 : Int32) (x2 : Int32) (x3 : Int32) (x4 : Int32) (σ : Sg) : Prop := ∀ x4_11 : Int32, x4_11 = x4 + 1 → K12 x1 x2 x3 x4_11 σ
def wpX9_awaitReport_L12 (Q : Sg → Prop) : Nat → Int32 → Int32 → Int32 → Int32 → Sg → Prop
  | 0, _, _, _, _, _ => False
  | n + 1, x1, x2, x3, x4, σ => ((31 ≤ x4 → ∀ x4_4 : Int32, x4_4 = (x3 + 7) / 8 → wpX9_await x1 ((x2 >>> ((8 : Int32) &&& 31)) &&& 63) (-1) 1 0 σ (fun σ5 => ((¬ x4_4 = 0 → wpX9_awaitReport_L95 Q x1 x2 x3 x4_4 0 0 (-1) (x2 &&& 255) x1 σ5) ∧ (x4_4 = 0 → wpX9_awaitReport_L95 Q x1 x2 x3 x4_4 1 0 (-1) (x2 &&& 255) x1 σ5)))) ∧ (¬ (31 ≤ x4) → (vp_in ((32 * x1) + (((x2 + 1) + x4) &&& 31)) 192 ∧ (((σ 59 ((32 * x1) + (((x2 + 1) + x4) &&& 31)).toNatClampNeg) = 0 → wpX9_awaitReport_L46 Q (wpX9_awaitReport_L12 Q n) x1 x2 x3 x4 σ) ∧ (¬ ((σ 59 ((32 * x1) + (((x2 + 1) + x4) &&& 31)).toNatClampNeg) = 0) → ∀ x3_9 : Int32, x3_9 = x4 + 1 → wpX9_awaitReport_L46 Q (wpX9_awaitReport_L12 Q n) x1 x2 x3_9 x4 σ)))))
def wpX9_awaitReport (x1 : Int32) (σ : Sg) (Q : Sg → Prop) : Prop := (vp_in x1 6 ∧ ∀ x2_2 : Int32, x2_2 = σ 51 x1.toNatClampNeg → ∃ nn, wpX9_awaitReport_L12 Q nn x1 x2_2 0 0 σ)
set_option maxHeartbeats 8000000 in
set_option maxRecDepth 100000 in
theorem tX9_awaitReport {l : Launch} {G : GG} {x1 : Int32} {σ : Sg} {Q : Sg → Prop} (h0 : isModel G) (h : wpX9_awaitReport x1 σ Q) : Kv l G yX9_awaitReport (wB yX9_awaitReport prog_11_method_43_code 9 none) ({ frames := 1, cells := 0, slots := 0, locals := 26 }) [.ref (ga G 0), .int x1] σ Q := by
  refine K_of (cc := cX9_awaitReport) (maxL := 9) (ret := none) (by decide) rfl (Nat.le_of_ble_eq_true rfl) ?_
  intro p e s m args below meth c ls B hH hl
  obtain ⟨hx, hb, hr, hts, hown, hlk, hml, hK, hX⟩ := B
  replace hl : lv_has ls 9 [(0, .ref (ga G 0)), (1, .int x1)] := hl
  have hB : ∀ w ∈ BIG, w.before args s = true := fun w h9 => hts w (List.mem_cons_of_mem _ h9)
  clear hts
  have k162 := hB _ bw4_170
  have k186 := hB _ bw4_178
  have L101 : ∀ (n101 : Nat) (x1 : Int32) (x2 : Int32) (x3 : Int32) (x4 : Int32) (x5 : Int32) (σ : Sg) (H : Heap) (locs : List Loc) (ls : Array Slot), Hx G (aA G s.heap.size) s σ H locs → lv_has ls 9 [(0, .ref (ga G 0)), (1, .int x1), (2, .int x2), (3, .int x3), (4, .int x4), (5, .int x5)] → wpX9_awaitReport_L101 Q n101 x1 x2 x3 x4 x5 σ → W p l e ({ frames := 1, cells := 0, slots := 0, locals := 26 }) s m args below meth c H locs 0 0 (Zv G Q below args s) (F0 m 101 ls []) := by
    intro n101
    induction n101 with
    | zero =>
      intro x1 x2 x3 x4 x5 σ H locs ls hH hl h
      exact False.elim h
    | succ n101 ih101 =>
      have L197 : ∀ (x1 : Int32) (x2 : Int32) (x3 : Int32) (x4 : Int32) (x5 : Int32) (z0 : Int32) (z1 : Int32) (z2 : Int32) (z3 : Int32) (z4 : Int32) (σ : Sg) (H : Heap) (locs : List Loc) (ls : Array Slot), Hx G (aA G s.heap.size) s σ H locs → lv_has ls 9 [(0, .ref (ga G 0)), (1, .int x1), (2, .int x2), (3, .int x3), (4, .int x4), (5, .int x5)] → wpX9_awaitReport_L197 Q (wpX9_awaitReport_L101 Q n101) x1 x2 x3 x4 x5 z0 z1 z2 z3 z4 σ → W p l e ({ frames := 1, cells := 0, slots := 0, locals := 26 }) s m args below meth c H locs 0 0 (Zv G Q below args s) (F0 m 197 ls [.int z0, .int z1, .int z2, .int z3, .int z4, .ref (ga G 0)]) := by
        intro x1 x2 x3 x4 x5 z0 z1 z2 z3 z4 σ H locs ls hH hl h
        unfold wpX9_awaitReport_L197 at h
        refine g_callVv (As := [.int z4, .int z3, .int z2, .int z1, .int z0]) (rest := []) ⟨hx, hb, hml, hown, hB⟩ hK hX aA_hA hH (c0 := 0) (tX9_await h0 h) (cwV 5 hB gVX9_265 rfl rfl rfl (by decide +kernel) ⟨Nat.le_of_ble_eq_true rfl, Nat.le_of_ble_eq_true rfl⟩) h0.1 rfl rfl hl.1 rfl (lv_room (Nat.le_of_ble_eq_true rfl)) ⟨Nat.zero_le _, Nat.zero_le _⟩ dX9_awaitReport_197 (fun σ19 H locs h hH => ?_)
        obtain ⟨x5_20, ex5_20⟩ : ∃ y : Int32, y = x5 + 1 := ⟨_, rfl⟩
        replace h := h x5_20 ex5_20
        refine lv_iinc (v := x5_20) (lv' := [(5, .int x5_20), (0, .ref (ga G 0)), (1, .int x1), (2, .int x2), (3, .int x3), (4, .int x4)]) hx hb dX9_awaitReport_200 hl (k := 5) rfl (by rw [ex5_20]; rfl) (by decide) rfl (fun ls hl => ?_)
        refine lv_goto (tgt := 101) hx hb dX9_awaitReport_203 (by decide) ?_
        exact ih101 x1 x2 x3 x4 x5_20 σ19 _ _ ls hH (lv_sub hl [1, 2, 3, 4, 5, 0] rfl) h
      have L114 : ∀ (n114 : Nat) (x1 : Int32) (x2 : Int32) (x3 : Int32) (x4 : Int32) (x5 : Int32) (x6 : Int32) (x7 : Int32) (σ : Sg) (H : Heap) (locs : List Loc) (ls : Array Slot), Hx G (aA G s.heap.size) s σ H locs → lv_has ls 9 [(0, .ref (ga G 0)), (1, .int x1), (2, .int x2), (3, .int x3), (4, .int x4), (5, .int x5), (6, .int x6), (7, .int x7)] → wpX9_awaitReport_L114 Q (wpX9_awaitReport_L101 Q n101) n114 x1 x2 x3 x4 x5 x6 x7 σ → W p l e ({ frames := 1, cells := 0, slots := 0, locals := 26 }) s m args below meth c H locs 0 0 (Zv G Q below args s) (F0 m 114 ls []) := by
        intro n114
        induction n114 with
        | zero =>
          intro x1 x2 x3 x4 x5 x6 x7 σ H locs ls hH hl h
          exact False.elim h
        | succ n114 ih114 =>
          have L168 : ∀ (x1 : Int32) (x2 : Int32) (x3 : Int32) (x4 : Int32) (x5 : Int32) (x7 : Int32) (z0 : Int32) (z1 : Int32) (σ : Sg) (H : Heap) (locs : List Loc) (ls : Array Slot), Hx G (aA G s.heap.size) s σ H locs → lv_has ls 9 [(0, .ref (ga G 0)), (1, .int x1), (2, .int x2), (3, .int x3), (4, .int x4), (5, .int x5), (7, .int x7)] → wpX9_awaitReport_L168 Q (wpX9_awaitReport_L101 Q n101) (wpX9_awaitReport_L114 Q (wpX9_awaitReport_L101 Q n101) n114) x1 x2 x3 x4 x5 x7 z0 z1 σ → W p l e ({ frames := 1, cells := 0, slots := 0, locals := 26 }) s m args below meth c H locs 0 0 (Zv G Q below args s) (F0 m 168 ls [.int z0, .int z1]) := by
            intro x1 x2 x3 x4 x5 x7 z0 z1 σ H locs ls hH hl h
            unfold wpX9_awaitReport_L168 at h
            refine lv_ior hx hb dX9_awaitReport_168 ?_
            refine lv_topi (fun x6_21 ex6_21 => ?_)
            replace h := h x6_21 ex6_21
            refine lv_istore (lv' := [(6, .int x6_21), (0, .ref (ga G 0)), (1, .int x1), (2, .int x2), (3, .int x3), (4, .int x4), (5, .int x5), (7, .int x7)]) hx hb dX9_awaitReport_169 hl (by decide) rfl (fun ls hl => ?_)
            obtain ⟨x7_22, ex7_22⟩ : ∃ y : Int32, y = x7 + 1 := ⟨_, rfl⟩
            replace h := h x7_22 ex7_22
            refine lv_iinc (v := x7_22) (lv' := [(7, .int x7_22), (6, .int x6_21), (0, .ref (ga G 0)), (1, .int x1), (2, .int x2), (3, .int x3), (4, .int x4), (5, .int x5)]) hx hb dX9_awaitReport_171 hl (k := 7) rfl (by rw [ex7_22]; rfl) (by decide) rfl (fun ls hl => ?_)
            refine lv_goto (tgt := 114) hx hb dX9_awaitReport_174 (by decide) ?_
            exact ih114 x1 x2 x3 x4 x5 x6_21 x7_22 σ _ _ ls hH (lv_sub hl [2, 3, 4, 5, 6, 7, 1, 0] rfl) h
          have L167 : ∀ (x1 : Int32) (x2 : Int32) (x3 : Int32) (x4 : Int32) (x5 : Int32) (x7 : Int32) (z0 : Int32) (σ : Sg) (H : Heap) (locs : List Loc) (ls : Array Slot), Hx G (aA G s.heap.size) s σ H locs → lv_has ls 9 [(0, .ref (ga G 0)), (1, .int x1), (2, .int x2), (3, .int x3), (4, .int x4), (5, .int x5), (7, .int x7)] → wpX9_awaitReport_L167 Q (wpX9_awaitReport_L101 Q n101) (wpX9_awaitReport_L114 Q (wpX9_awaitReport_L101 Q n101) n114) x1 x2 x3 x4 x5 x7 z0 σ → W p l e ({ frames := 1, cells := 0, slots := 0, locals := 26 }) s m args below meth c H locs 0 0 (Zv G Q below args s) (F0 m 167 ls [.int z0]) := by
            intro x1 x2 x3 x4 x5 x7 z0 σ H locs ls hH hl h
            unfold wpX9_awaitReport_L167 at h
            refine lv_iconst (v := 0) hx hb dX9_awaitReport_167 (by decide) ?_
            exact L168 x1 x2 x3 x4 x5 x7 0 z0 σ _ _ ls hH (lv_sub hl [0, 1, 2, 3, 4, 5, 6] rfl) h
          intro x1 x2 x3 x4 x5 x6 x7 σ H locs ls hH hl h
          unfold wpX9_awaitReport_L114 at h
          refine lv_iload hx hb dX9_awaitReport_114 (lv_at hl 7 rfl) ?_
          refine lv_bipush (v := 8) hx hb dX9_awaitReport_116 (by decide) ?_
          refine lv_icmp_ge (tgt := 177) hx hb dX9_awaitReport_118 (by decide) (fun q13 => ?_) (fun q13 => ?_)
          · replace h := h.1 q13
            refine lv_aload_n hx hb dX9_awaitReport_177 rfl (lv_at hl 0 rfl) ?_
            refine lv_iload_n hx hb dX9_awaitReport_178 rfl (lv_at hl 1 rfl) ?_
            refine lv_iload hx hb dX9_awaitReport_179 (lv_at hl 6 rfl) ?_
            refine lv_iconst (v := (-1)) hx hb dX9_awaitReport_181 (by decide) ?_
            refine lv_iconst (v := 0) hx hb dX9_awaitReport_182 (by decide) ?_
            refine lv_iload hx hb dX9_awaitReport_183 (lv_at hl 5 rfl) ?_
            refine lv_iconst (v := 1) hx hb dX9_awaitReport_185 (by decide) ?_
            refine lv_iadd hx hb dX9_awaitReport_186 ?_
            refine lv_iload hx hb dX9_awaitReport_187 (lv_at hl 4 rfl) ?_
            refine lv_icmp_ne (tgt := 196) hx hb dX9_awaitReport_189 (by decide) (fun q14 => ?_) (fun q14 => ?_)
            · replace h := h.1 q14
              refine lv_iconst (v := 0) hx hb dX9_awaitReport_196 (by decide) ?_
              exact L197 x1 x2 x3 x4 x5 0 0 (-1) x6 x1 σ _ _ ls hH (lv_sub hl [0, 1, 2, 3, 4, 5] rfl) h
            · replace h := h.2 q14
              refine lv_iconst (v := 1) hx hb dX9_awaitReport_192 (by decide) ?_
              refine lv_goto (tgt := 197) hx hb dX9_awaitReport_193 (by decide) ?_
              exact L197 x1 x2 x3 x4 x5 1 0 (-1) x6 x1 σ _ _ ls hH (lv_sub hl [0, 1, 2, 3, 4, 5] rfl) h
          · replace h := h.2 q13
            refine lv_bipush (v := 8) hx hb dX9_awaitReport_121 (by decide) ?_
            refine lv_iload hx hb dX9_awaitReport_123 (lv_at hl 5 rfl) ?_
            refine lv_imul hx hb dX9_awaitReport_125 ?_
            refine lv_iload hx hb dX9_awaitReport_126 (lv_at hl 7 rfl) ?_
            refine lv_iadd hx hb dX9_awaitReport_128 ?_
            refine lv_topi (fun x8_15 ex8_15 => ?_)
            replace h := h x8_15 ex8_15
            refine lv_istore (lv' := [(8, .int x8_15), (0, .ref (ga G 0)), (1, .int x1), (2, .int x2), (3, .int x3), (4, .int x4), (5, .int x5), (6, .int x6), (7, .int x7)]) hx hb dX9_awaitReport_129 hl (by decide) rfl (fun ls hl => ?_)
            refine lv_iload hx hb dX9_awaitReport_131 (lv_at hl 7 rfl) ?_
            refine lv_iconst (v := 1) hx hb dX9_awaitReport_133 (by decide) ?_
            refine lv_ishl hx hb dX9_awaitReport_134 ?_
            refine lv_iload hx hb dX9_awaitReport_135 (lv_at hl 0 rfl) ?_
            refine lv_iload_n hx hb dX9_awaitReport_137 rfl (lv_at hl 4 rfl) ?_
            refine lv_icmp_ge (tgt := 167) hx hb dX9_awaitReport_138 (by decide) (fun q16 => ?_) (fun q16 => ?_)
            · replace h := h.1 q16
              exact L167 x1 x2 x3 x4 x5 x7 (x6 <<< ((1 : Int32) &&& 31)) σ _ _ ls hH (lv_sub hl [1, 2, 3, 4, 5, 6, 8] rfl) h
            · replace h := h.2 q16
              refine lv_aload_n hx hb dX9_awaitReport_141 rfl (lv_at hl 1 rfl) ?_
              refine g_getr hx hb hB inB9 hown hK hH (c0 := 0) h0.1 rfl 68 (by decide) k186 rfl (c1 := 59) rfl dX9_awaitReport_142 ?_
              refine lv_bipush (v := 32) hx hb dX9_awaitReport_145 (by decide) ?_
              refine lv_iload_n hx hb dX9_awaitReport_147 rfl (lv_at hl 2 rfl) ?_
              refine lv_imul hx hb dX9_awaitReport_148 ?_
              refine lv_iload_n hx hb dX9_awaitReport_149 rfl (lv_at hl 3 rfl) ?_
              refine lv_iconst (v := 1) hx hb dX9_awaitReport_150 (by decide) ?_
              refine lv_iadd hx hb dX9_awaitReport_151 ?_
              refine lv_iload hx hb dX9_awaitReport_152 (lv_at hl 0 rfl) ?_
              refine lv_iadd hx hb dX9_awaitReport_154 ?_
              refine lv_bipush (v := 31) hx hb dX9_awaitReport_155 (by decide) ?_
              refine lv_iand hx hb dX9_awaitReport_157 ?_
              refine lv_iadd hx hb dX9_awaitReport_158 ?_
              obtain ⟨hi17, h⟩ := h
              refine g_zald hx hb hK hH (c0 := 59) (mA59 h0) hi17 dX9_awaitReport_159 ?_
              refine lv_if_eq (tgt := 167) hx hb dX9_awaitReport_160 (by decide) (fun q18 => ?_) (fun q18 => ?_)
              · replace h := h.1 q18
                exact L167 x1 x2 x3 x4 x5 x7 (x6 <<< ((1 : Int32) &&& 31)) σ _ _ ls hH (lv_sub hl [1, 2, 3, 4, 5, 6, 8] rfl) h
              · replace h := h.2 q18
                refine lv_iconst (v := 1) hx hb dX9_awaitReport_163 (by decide) ?_
                refine lv_goto (tgt := 168) hx hb dX9_awaitReport_164 (by decide) ?_
                exact L168 x1 x2 x3 x4 x5 x7 1 (x6 <<< ((1 : Int32) &&& 31)) σ _ _ ls hH (lv_sub hl [1, 2, 3, 4, 5, 6, 8] rfl) h
      intro x1 x2 x3 x4 x5 σ H locs ls hH hl h
      unfold wpX9_awaitReport_L101 at h
      refine lv_iload hx hb dX9_awaitReport_101 (lv_at hl 5 rfl) ?_
      refine lv_iload hx hb dX9_awaitReport_103 (lv_at hl 4 rfl) ?_
      refine lv_icmp_ge (tgt := 206) hx hb dX9_awaitReport_105 (by decide) (fun q12 => ?_) (fun q12 => ?_)
      · replace h := h.1 q12
        exact g_vret hx hb hr hK hlk h hH dX9_awaitReport_206
      · replace h := h.2 q12
        refine lv_iconst (v := 0) hx hb dX9_awaitReport_108 (by decide) ?_
        refine lv_istore (lv' := [(6, .int 0), (0, .ref (ga G 0)), (1, .int x1), (2, .int x2), (3, .int x3), (4, .int x4), (5, .int x5)]) hx hb dX9_awaitReport_109 hl (by decide) rfl (fun ls hl => ?_)
        refine lv_iconst (v := 0) hx hb dX9_awaitReport_111 (by decide) ?_
        refine lv_istore (lv' := [(7, .int 0), (6, .int 0), (0, .ref (ga G 0)), (1, .int x1), (2, .int x2), (3, .int x3), (4, .int x4), (5, .int x5)]) hx hb dX9_awaitReport_112 hl (by decide) rfl (fun ls hl => ?_)
        obtain ⟨nn, h⟩ := h
        exact L114 nn x1 x2 x3 x4 x5 0 0 σ _ _ ls hH (lv_sub hl [2, 3, 4, 5, 6, 7, 1, 0] rfl) h
  have L95 : ∀ (x1 : Int32) (x2 : Int32) (x3 : Int32) (x4 : Int32) (z0 : Int32) (z1 : Int32) (z2 : Int32) (z3 : Int32) (z4 : Int32) (σ : Sg) (H : Heap) (locs : List Loc) (ls : Array Slot), Hx G (aA G s.heap.size) s σ H locs → lv_has ls 9 [(0, .ref (ga G 0)), (1, .int x1), (2, .int x2), (3, .int x3), (4, .int x4)] → wpX9_awaitReport_L95 Q x1 x2 x3 x4 z0 z1 z2 z3 z4 σ → W p l e ({ frames := 1, cells := 0, slots := 0, locals := 26 }) s m args below meth c H locs 0 0 (Zv G Q below args s) (F0 m 95 ls [.int z0, .int z1, .int z2, .int z3, .int z4, .ref (ga G 0)]) := by
    intro x1 x2 x3 x4 z0 z1 z2 z3 z4 σ H locs ls hH hl h
    unfold wpX9_awaitReport_L95 at h
    refine g_callVv (As := [.int z4, .int z3, .int z2, .int z1, .int z0]) (rest := []) ⟨hx, hb, hml, hown, hB⟩ hK hX aA_hA hH (c0 := 0) (tX9_await h0 h) (cwV 5 hB gVX9_265 rfl rfl rfl (by decide +kernel) ⟨Nat.le_of_ble_eq_true rfl, Nat.le_of_ble_eq_true rfl⟩) h0.1 rfl rfl hl.1 rfl (lv_room (Nat.le_of_ble_eq_true rfl)) ⟨Nat.zero_le _, Nat.zero_le _⟩ dX9_awaitReport_95 (fun σ10 H locs h hH => ?_)
    refine lv_iconst (v := 0) hx hb dX9_awaitReport_98 (by decide) ?_
    refine lv_istore (lv' := [(5, .int 0), (0, .ref (ga G 0)), (1, .int x1), (2, .int x2), (3, .int x3), (4, .int x4)]) hx hb dX9_awaitReport_99 hl (by decide) rfl (fun ls hl => ?_)
    obtain ⟨nn, h⟩ := h
    exact L101 nn x1 x2 x3 x4 0 σ10 _ _ ls hH (lv_sub hl [1, 2, 3, 4, 5, 0] rfl) h
  have L12 : ∀ (n12 : Nat) (x1 : Int32) (x2 : Int32) (x3 : Int32) (x4 : Int32) (σ : Sg) (H : Heap) (locs : List Loc) (ls : Array Slot), Hx G (aA G s.heap.size) s σ H locs → lv_has ls 9 [(0, .ref (ga G 0)), (1, .int x1), (2, .int x2), (3, .int x3), (4, .int x4)] → wpX9_awaitReport_L12 Q n12 x1 x2 x3 x4 σ → W p l e ({ frames := 1, cells := 0, slots := 0, locals := 26 }) s m args below meth c H locs 0 0 (Zv G Q below args s) (F0 m 12 ls []) := by
    intro n12
    induction n12 with
    | zero =>
      intro x1 x2 x3 x4 σ H locs ls hH hl h
      exact False.elim h
    | succ n12 ih12 =>
      have L46 : ∀ (x1 : Int32) (x2 : Int32) (x3 : Int32) (x4 : Int32) (σ : Sg) (H : Heap) (locs : List Loc) (ls : Array Slot), Hx G (aA G s.heap.size) s σ H locs → lv_has ls 9 [(0, .ref (ga G 0)), (1, .int x1), (2, .int x2), (3, .int x3), (4, .int x4)] → wpX9_awaitReport_L46 Q (wpX9_awaitReport_L12 Q n12) x1 x2 x3 x4 σ → W p l e ({ frames := 1, cells := 0, slots := 0, locals := 26 }) s m args below meth c H locs 0 0 (Zv G Q below args s) (F0 m 46 ls []) := by
        intro x1 x2 x3 x4 σ H locs ls hH hl h
        unfold wpX9_awaitReport_L46 at h
        obtain ⟨x4_11, ex4_11⟩ : ∃ y : Int32, y = x4 + 1 := ⟨_, rfl⟩
        replace h := h x4_11 ex4_11
        refine lv_iinc (v := x4_11) (lv' := [(4, .int x4_11), (0, .ref (ga G 0)), (1, .int x1), (2, .int x2), (3, .int x3)]) hx hb dX9_awaitReport_46 hl (k := 4) rfl (by rw [ex4_11]; rfl) (by decide) rfl (fun ls hl => ?_)
        refine lv_goto (tgt := 12) hx hb dX9_awaitReport_49 (by decide) ?_
        exact ih12 x1 x2 x3 x4_11 σ _ _ ls hH (lv_sub hl [1, 2, 3, 4, 0] rfl) h
      intro x1 x2 x3 x4 σ H locs ls hH hl h
      unfold wpX9_awaitReport_L12 at h
      refine lv_iload hx hb dX9_awaitReport_12 (lv_at hl 4 rfl) ?_
      refine lv_bipush (v := 31) hx hb dX9_awaitReport_14 (by decide) ?_
      refine lv_icmp_ge (tgt := 52) hx hb dX9_awaitReport_16 (by decide) (fun q3 => ?_) (fun q3 => ?_)
      · replace h := h.1 q3
        refine lv_iload_n hx hb dX9_awaitReport_52 rfl (lv_at hl 3 rfl) ?_
        refine lv_bipush (v := 7) hx hb dX9_awaitReport_53 (by decide) ?_
        refine lv_iadd hx hb dX9_awaitReport_55 ?_
        refine lv_bipush (v := 8) hx hb dX9_awaitReport_56 (by decide) ?_
        refine lv_idiv hx hb dX9_awaitReport_58 (by decide) ?_
        refine lv_topi (fun x4_4 ex4_4 => ?_)
        replace h := h x4_4 ex4_4
        refine lv_istore (lv' := [(4, .int x4_4), (0, .ref (ga G 0)), (1, .int x1), (2, .int x2), (3, .int x3)]) hx hb dX9_awaitReport_59 hl (by decide) rfl (fun ls hl => ?_)
        refine lv_aload_n hx hb dX9_awaitReport_61 rfl (lv_at hl 1 rfl) ?_
        refine lv_iload_n hx hb dX9_awaitReport_62 rfl (lv_at hl 2 rfl) ?_
        refine lv_iload_n hx hb dX9_awaitReport_63 rfl (lv_at hl 3 rfl) ?_
        refine lv_bipush (v := 8) hx hb dX9_awaitReport_64 (by decide) ?_
        refine lv_ishr hx hb dX9_awaitReport_66 ?_
        refine lv_bipush (v := 63) hx hb dX9_awaitReport_67 (by decide) ?_
        refine lv_iand hx hb dX9_awaitReport_69 ?_
        refine lv_iconst (v := (-1)) hx hb dX9_awaitReport_70 (by decide) ?_
        refine lv_iconst (v := 1) hx hb dX9_awaitReport_71 (by decide) ?_
        refine lv_iconst (v := 0) hx hb dX9_awaitReport_72 (by decide) ?_
        refine g_callVv (As := [.int x1, .int ((x2 >>> ((8 : Int32) &&& 31)) &&& 63), .int (-1), .int 1, .int 0]) (rest := []) ⟨hx, hb, hml, hown, hB⟩ hK hX aA_hA hH (c0 := 0) (tX9_await h0 h) (cwV 5 hB gVX9_265 rfl rfl rfl (by decide +kernel) ⟨Nat.le_of_ble_eq_true rfl, Nat.le_of_ble_eq_true rfl⟩) h0.1 rfl rfl hl.1 rfl (lv_room (Nat.le_of_ble_eq_true rfl)) ⟨Nat.zero_le _, Nat.zero_le _⟩ dX9_awaitReport_73 (fun σ5 H locs h hH => ?_)
        refine lv_aload_n hx hb dX9_awaitReport_76 rfl (lv_at hl 1 rfl) ?_
        refine lv_iload_n hx hb dX9_awaitReport_77 rfl (lv_at hl 2 rfl) ?_
        refine lv_iload_n hx hb dX9_awaitReport_78 rfl (lv_at hl 3 rfl) ?_
        refine lv_sipush (v := 255) hx hb dX9_awaitReport_79 (by decide) ?_
        refine lv_iand hx hb dX9_awaitReport_82 ?_
        refine lv_iconst (v := (-1)) hx hb dX9_awaitReport_83 (by decide) ?_
        refine lv_iconst (v := 0) hx hb dX9_awaitReport_84 (by decide) ?_
        refine lv_iload hx hb dX9_awaitReport_85 (lv_at hl 0 rfl) ?_
        refine lv_if_ne (tgt := 94) hx hb dX9_awaitReport_87 (by decide) (fun q6 => ?_) (fun q6 => ?_)
        · replace h := h.1 q6
          refine lv_iconst (v := 0) hx hb dX9_awaitReport_94 (by decide) ?_
          exact L95 x1 x2 x3 x4_4 0 0 (-1) (x2 &&& 255) x1 σ5 _ _ ls hH (lv_sub hl [1, 2, 3, 4, 0] rfl) h
        · replace h := h.2 q6
          refine lv_iconst (v := 1) hx hb dX9_awaitReport_90 (by decide) ?_
          refine lv_goto (tgt := 95) hx hb dX9_awaitReport_91 (by decide) ?_
          exact L95 x1 x2 x3 x4_4 1 0 (-1) (x2 &&& 255) x1 σ5 _ _ ls hH (lv_sub hl [1, 2, 3, 4, 0] rfl) h
      · replace h := h.2 q3
        refine lv_aload_n hx hb dX9_awaitReport_19 rfl (lv_at hl 0 rfl) ?_
        refine g_getr hx hb hB inB9 hown hK hH (c0 := 0) h0.1 rfl 68 (by decide) k186 rfl (c1 := 59) rfl dX9_awaitReport_20 ?_
        refine lv_bipush (v := 32) hx hb dX9_awaitReport_23 (by decide) ?_
        refine lv_iload_n hx hb dX9_awaitReport_25 rfl (lv_at hl 1 rfl) ?_
        refine lv_imul hx hb dX9_awaitReport_26 ?_
        refine lv_iload_n hx hb dX9_awaitReport_27 rfl (lv_at hl 2 rfl) ?_
        refine lv_iconst (v := 1) hx hb dX9_awaitReport_28 (by decide) ?_
        refine lv_iadd hx hb dX9_awaitReport_29 ?_
        refine lv_iload hx hb dX9_awaitReport_30 (lv_at hl 4 rfl) ?_
        refine lv_iadd hx hb dX9_awaitReport_32 ?_
        refine lv_bipush (v := 31) hx hb dX9_awaitReport_33 (by decide) ?_
        refine lv_iand hx hb dX9_awaitReport_35 ?_
        refine lv_iadd hx hb dX9_awaitReport_36 ?_
        obtain ⟨hi7, h⟩ := h
        refine g_zald hx hb hK hH (c0 := 59) (mA59 h0) hi7 dX9_awaitReport_37 ?_
        refine lv_if_eq (tgt := 46) hx hb dX9_awaitReport_38 (by decide) (fun q8 => ?_) (fun q8 => ?_)
        · replace h := h.1 q8
          exact L46 x1 x2 x3 x4 σ _ _ ls hH (lv_sub hl [0, 1, 2, 3, 4] rfl) h
        · replace h := h.2 q8
          refine lv_iload hx hb dX9_awaitReport_41 (lv_at hl 4 rfl) ?_
          refine lv_iconst (v := 1) hx hb dX9_awaitReport_43 (by decide) ?_
          refine lv_iadd hx hb dX9_awaitReport_44 ?_
          refine lv_topi (fun x3_9 ex3_9 => ?_)
          replace h := h x3_9 ex3_9
          refine lv_istore_n (lv' := [(3, .int x3_9), (0, .ref (ga G 0)), (1, .int x1), (2, .int x2), (4, .int x4)]) hx hb dX9_awaitReport_45 rfl hl (by decide) rfl (fun ls hl => ?_)
          exact L46 x1 x2 x3_9 x4 σ _ _ ls hH (lv_sub hl [1, 2, 3, 0, 4] rfl) h
  unfold wpX9_awaitReport at h
  refine lv_aload_n hx hb dX9_awaitReport_0 rfl (lv_at hl 0 rfl) ?_
  refine g_getr hx hb hB inB9 hown hK hH (c0 := 0) h0.1 rfl 60 (by decide) k162 rfl (c1 := 51) rfl dX9_awaitReport_1 ?_
  refine lv_iload_n hx hb dX9_awaitReport_4 rfl (lv_at hl 1 rfl) ?_
  obtain ⟨hi1, h⟩ := h
  refine g_iald hx hb hK hH (c0 := 51) (mA51 h0) hi1 dX9_awaitReport_5 ?_
  refine lv_topi (fun x2_2 ex2_2 => ?_)
  replace h := h x2_2 ex2_2
  refine lv_istore_n (lv' := [(2, .int x2_2), (0, .ref (ga G 0)), (1, .int x1)]) hx hb dX9_awaitReport_6 rfl hl (by decide) rfl (fun ls hl => ?_)
  refine lv_iconst (v := 0) hx hb dX9_awaitReport_7 (by decide) ?_
  refine lv_istore_n (lv' := [(3, .int 0), (2, .int x2_2), (0, .ref (ga G 0)), (1, .int x1)]) hx hb dX9_awaitReport_8 rfl hl (by decide) rfl (fun ls hl => ?_)
  refine lv_iconst (v := 0) hx hb dX9_awaitReport_9 (by decide) ?_
  refine lv_istore (lv' := [(4, .int 0), (3, .int 0), (2, .int x2_2), (0, .ref (ga G 0)), (1, .int x1)]) hx hb dX9_awaitReport_10 hl (by decide) rfl (fun ls hl => ?_)
  obtain ⟨nn, h⟩ := h
  exact L12 nn x1 x2_2 0 0 σ _ _ ls hH (lv_sub hl [3, 4, 2, 1, 0] rfl) h
def wpX9_timers_L217 (Q : Sg → Prop) (x1 : Int32) (σ : Sg) : Prop := (vp_in x1 6 ∧ (((σ 38 x1.toNatClampNeg) ≤ 0 → Q σ) ∧ (¬ ((σ 38 x1.toNatClampNeg) ≤ 0) → (vp_in x1 6 ∧ (vp_in x1 6 ∧ ∀ σ35 : Sg, σ35 = up2 σ 38 x1.toNatClampNeg ((σ 38 x1.toNatClampNeg) - 1) → Q σ35)))))
def wpX9_timers_L165 (Q : Sg → Prop) (x1 : Int32) (σ : Sg) : Prop := wpX9_goOn x1 σ (fun σ36 => (vp_in x1 6 ∧ ∀ σ37 : Sg, σ37 = up2 σ36 43 x1.toNatClampNeg 1 → wpX9_asksStatus x1 σ37 (fun σ38 => (vp_in x1 6 ∧ (vp_in x1 6 ∧ (((σ38 34 x1.toNatClampNeg) ≤ (σ38 35 x1.toNatClampNeg) → wpX9_timers_L217 Q x1 σ38) ∧ (¬ ((σ38 34 x1.toNatClampNeg) ≤ (σ38 35 x1.toNatClampNeg)) → (vp_in x1 6 ∧ ∀ σ42 : Sg, σ42 = up2 σ38 37 x1.toNatClampNeg 6 → (vp_in x1 6 ∧ (vp_in x1 6 ∧ ∀ σ44 : Sg, σ44 = up2 σ42 36 x1.toNatClampNeg (σ42 34 x1.toNatClampNeg) → wpX9_timers_L217 Q x1 σ44))))))))))
def wpX9_timers_L110 (Q : Sg → Prop) (x1 : Int32) (σ : Sg) : Prop := (vp_in x1 6 ∧ (((σ 37 x1.toNatClampNeg) ≤ 0 → wpX9_timers_L217 Q x1 σ) ∧ (¬ ((σ 37 x1.toNatClampNeg) ≤ 0) → (vp_in x1 6 ∧ (vp_in x1 6 ∧ ∀ σ16 : Sg, σ16 = up2 σ 37 x1.toNatClampNeg ((σ 37 x1.toNatClampNeg) - 1) → (vp_in x1 6 ∧ ((¬ (σ16 37 x1.toNatClampNeg) = 0 → wpX9_timers_L217 Q x1 σ16) ∧ ((σ16 37 x1.toNatClampNeg) = 0 → (vp_in x1 6 ∧ (vp_in x1 6 ∧ (((σ16 36 x1.toNatClampNeg) ≤ (σ16 35 x1.toNatClampNeg) → wpX9_timers_L165 Q x1 σ16) ∧ (¬ ((σ16 36 x1.toNatClampNeg) ≤ (σ16 35 x1.toNatClampNeg)) → (vp_in x1 6 ∧ (vp_in x1 6 ∧ ∀ σ23 : Sg, σ23 = up2 σ16 35 x1.toNatClampNeg (σ16 36 x1.toNatClampNeg) → wpX9_timers_L165 Q x1 σ23))))))))))))))
def wpX9_timers_L67 (Q : Sg → Prop) (x1 : Int32) (z0 : Int32) (σ : Sg) : Prop := wpX9_allAgain x1 σ (fun r24 σ24 => ((¬ r24 = 0 → wpX9_timers_L110 Q x1 σ24) ∧ (r24 = 0 → (vp_in x1 6 ∧ (vp_in x1 6 ∧ (((σ24 4 x1.toNatClampNeg) ≤ (σ24 3 x1.toNatClampNeg) → wpX9_timers_L110 Q x1 σ24) ∧ (¬ ((σ24 4 x1.toNatClampNeg) ≤ (σ24 3 x1.toNatClampNeg)) → ((z0 = 0 → wpX9_timers_L110 Q x1 σ24) ∧ (¬ (z0 = 0) → (vp_in x1 6 ∧ wpX9_comesAgain x1 (σ24 3 x1.toNatClampNeg) 0 240 σ24 (fun σ31 => wpX9_timers_L110 Q x1 σ31)))))))))))
def wpX9_timers_L62 (Q : Sg → Prop) (x1 : Int32) (σ : Sg) : Prop := wpX9_timers_L67 Q x1 1 σ
def wpX9_timers (x1 : Int32) (σ : Sg) (Q : Sg → Prop) : Prop := (vp_in x1 6 ∧ (((σ 5 x1.toNatClampNeg) ≤ 0 → wpX9_timers_L110 Q x1 σ) ∧ (¬ ((σ 5 x1.toNatClampNeg) ≤ 0) → (vp_in x1 6 ∧ (vp_in x1 6 ∧ ∀ σ4 : Sg, σ4 = up2 σ 5 x1.toNatClampNeg ((σ 5 x1.toNatClampNeg) - 1) → (vp_in x1 6 ∧ ((¬ (σ4 5 x1.toNatClampNeg) = 0 → wpX9_timers_L110 Q x1 σ4) ∧ ((σ4 5 x1.toNatClampNeg) = 0 → (vp_in x1 6 ∧ ∀ σ7 : Sg, σ7 = up2 σ4 12 x1.toNatClampNeg 1 → (vp_in x1 6 ∧ (((σ7 22 x1.toNatClampNeg) = 0 → wpX9_timers_L62 Q x1 σ7) ∧ (¬ ((σ7 22 x1.toNatClampNeg) = 0) → (vp_in x1 6 ∧ (vp_in x1 6 ∧ ((¬ ((σ7 4 x1.toNatClampNeg) - (σ7 3 x1.toNatClampNeg)) = 16 → wpX9_timers_L67 Q x1 0 σ7) ∧ (((σ7 4 x1.toNatClampNeg) - (σ7 3 x1.toNatClampNeg)) = 16 → wpX9_timers_L62 Q x1 σ7))))))))))))))))
set_option maxHeartbeats 8000000 in
set_option maxRecDepth 100000 in
theorem tX9_timers {l : Launch} {G : GG} {x1 : Int32} {σ : Sg} {Q : Sg → Prop} (h0 : isModel G) (h : wpX9_timers x1 σ Q) : Kv l G yX9_timers (wB yX9_timers prog_11_method_44_code 3 none) ({ frames := 2, cells := 0, slots := 0, locals := 51 }) [.ref (ga G 0), .int x1] σ Q := by
  refine K_of (cc := cX9_timers) (maxL := 3) (ret := none) (by decide) rfl (Nat.le_of_ble_eq_true rfl) ?_
  intro p e s m args below meth c ls B hH hl
  obtain ⟨hx, hb, hr, hts, hown, hlk, hml, hK, hX⟩ := B
  replace hl : lv_has ls 3 [(0, .ref (ga G 0)), (1, .int x1)] := hl
  have hB : ∀ w ∈ BIG, w.before args s = true := fun w h9 => hts w (List.mem_cons_of_mem _ h9)
  clear hts
  have k16 := hB _ bw4_122
  have k19 := hB _ bw4_123
  have k22 := hB _ bw4_124
  have k43 := hB _ bw4_131
  have k74 := hB _ bw4_141
  have k110 := hB _ bw4_153
  have k113 := hB _ bw4_154
  have k116 := hB _ bw4_155
  have k119 := hB _ bw4_156
  have k122 := hB _ bw4_157
  have k137 := hB _ bw4_162
  have L217 : ∀ (x1 : Int32) (σ : Sg) (H : Heap) (locs : List Loc) (ls : Array Slot), Hx G (aA G s.heap.size) s σ H locs → lv_has ls 3 [(0, .ref (ga G 0)), (1, .int x1)] → wpX9_timers_L217 Q x1 σ → W p l e ({ frames := 2, cells := 0, slots := 0, locals := 51 }) s m args below meth c H locs 0 0 (Zv G Q below args s) (F0 m 217 ls []) := by
    intro x1 σ H locs ls hH hl h
    unfold wpX9_timers_L217 at h
    refine lv_aload_n hx hb dX9_timers_217 rfl (lv_at hl 0 rfl) ?_
    refine g_getr hx hb hB inB9 hown hK hH (c0 := 0) h0.1 rfl 47 (by decide) k122 rfl (c1 := 38) rfl dX9_timers_218 ?_
    refine lv_iload_n hx hb dX9_timers_221 rfl (lv_at hl 1 rfl) ?_
    obtain ⟨hi32, h⟩ := h
    refine g_iald hx hb hK hH (c0 := 38) (mA38 h0) hi32 dX9_timers_222 ?_
    refine lv_if_le (tgt := 236) hx hb dX9_timers_223 (by decide) (fun q33 => ?_) (fun q33 => ?_)
    · replace h := h.1 q33
      exact g_vret hx hb hr hK hlk h hH dX9_timers_236
    · replace h := h.2 q33
      refine lv_aload_n hx hb dX9_timers_226 rfl (lv_at hl 0 rfl) ?_
      refine g_getr hx hb hB inB9 hown hK hH (c0 := 0) h0.1 rfl 47 (by decide) k122 rfl (c1 := 38) rfl dX9_timers_227 ?_
      refine lv_iload_n hx hb dX9_timers_230 rfl (lv_at hl 1 rfl) ?_
      refine lv_dup2_11 hx hb dX9_timers_231 rfl rfl ?_
      obtain ⟨hi34, h⟩ := h
      refine g_iald hx hb hK hH (c0 := 38) (mA38 h0) hi34 dX9_timers_232 ?_
      refine lv_iconst (v := 1) hx hb dX9_timers_233 (by decide) ?_
      refine lv_isub hx hb dX9_timers_234 ?_
      obtain ⟨hi35, h⟩ := h
      refine g_iast hx hb hK hH (c0 := 38) (i := x1) (mA38 h0) hi35 dX9_timers_235 (fun σ35 eσ35 H locs hH => ?_)
      replace h := h σ35 eσ35
      exact g_vret hx hb hr hK hlk h hH dX9_timers_236
  have L165 : ∀ (x1 : Int32) (σ : Sg) (H : Heap) (locs : List Loc) (ls : Array Slot), Hx G (aA G s.heap.size) s σ H locs → lv_has ls 3 [(0, .ref (ga G 0)), (1, .int x1)] → wpX9_timers_L165 Q x1 σ → W p l e ({ frames := 2, cells := 0, slots := 0, locals := 51 }) s m args below meth c H locs 0 0 (Zv G Q below args s) (F0 m 165 ls []) := by
    intro x1 σ H locs ls hH hl h
    unfold wpX9_timers_L165 at h
    refine lv_aload_n hx hb dX9_timers_165 rfl (lv_at hl 0 rfl) ?_
    refine lv_iload_n hx hb dX9_timers_166 rfl (lv_at hl 1 rfl) ?_
    refine g_callVv (As := [.int x1]) (rest := []) ⟨hx, hb, hml, hown, hB⟩ hK hX aA_hA hH (c0 := 0) (tX9_goOn h0 h) (cwV 1 hB gVX9_337 rfl rfl rfl (by decide +kernel) ⟨Nat.le_of_ble_eq_true rfl, Nat.le_of_ble_eq_true rfl⟩) h0.1 rfl rfl hl.1 rfl (lv_room (Nat.le_of_ble_eq_true rfl)) ⟨Nat.zero_le _, Nat.zero_le _⟩ dX9_timers_167 (fun σ36 H locs h hH => ?_)
    refine lv_aload_n hx hb dX9_timers_170 rfl (lv_at hl 0 rfl) ?_
    refine g_getr hx hb hB inB9 hown hK hH (c0 := 0) h0.1 rfl 52 (by decide) k137 rfl (c1 := 43) rfl dX9_timers_171 ?_
    refine lv_iload_n hx hb dX9_timers_174 rfl (lv_at hl 1 rfl) ?_
    refine lv_iconst (v := 1) hx hb dX9_timers_175 (by decide) ?_
    obtain ⟨hi37, h⟩ := h
    refine g_zast hx hb hK hH (c0 := 43) (i := x1) (mA43 h0) vz1 hi37 dX9_timers_176 (fun σ37 eσ37 H locs hH => ?_)
    replace h := h σ37 eσ37
    refine lv_aload_n hx hb dX9_timers_177 rfl (lv_at hl 0 rfl) ?_
    refine lv_iload_n hx hb dX9_timers_178 rfl (lv_at hl 1 rfl) ?_
    refine g_callVv (As := [.int x1]) (rest := []) ⟨hx, hb, hml, hown, hB⟩ hK hX aA_hA hH (c0 := 0) (tX9_asksStatus h0 h) (cwV 1 hB gVX9_347 rfl rfl rfl (by decide +kernel) ⟨Nat.le_of_ble_eq_true rfl, Nat.le_of_ble_eq_true rfl⟩) h0.1 rfl rfl hl.1 rfl (lv_room (Nat.le_of_ble_eq_true rfl)) ⟨Nat.zero_le _, Nat.zero_le _⟩ dX9_timers_179 (fun σ38 H locs h hH => ?_)
    refine lv_aload_n hx hb dX9_timers_182 rfl (lv_at hl 0 rfl) ?_
    refine g_getr hx hb hB inB9 hown hK hH (c0 := 0) h0.1 rfl 43 (by decide) k110 rfl (c1 := 34) rfl dX9_timers_183 ?_
    refine lv_iload_n hx hb dX9_timers_186 rfl (lv_at hl 1 rfl) ?_
    obtain ⟨hi39, h⟩ := h
    refine g_iald hx hb hK hH (c0 := 34) (mA34 h0) hi39 dX9_timers_187 ?_
    refine lv_aload_n hx hb dX9_timers_188 rfl (lv_at hl 0 rfl) ?_
    refine g_getr hx hb hB inB9 hown hK hH (c0 := 0) h0.1 rfl 44 (by decide) k113 rfl (c1 := 35) rfl dX9_timers_189 ?_
    refine lv_iload_n hx hb dX9_timers_192 rfl (lv_at hl 1 rfl) ?_
    obtain ⟨hi40, h⟩ := h
    refine g_iald hx hb hK hH (c0 := 35) (mA35 h0) hi40 dX9_timers_193 ?_
    refine lv_icmp_le (tgt := 217) hx hb dX9_timers_194 (by decide) (fun q41 => ?_) (fun q41 => ?_)
    · replace h := h.1 q41
      exact L217 x1 σ38 _ _ ls hH (lv_sub hl [0, 1] rfl) h
    · replace h := h.2 q41
      refine lv_aload_n hx hb dX9_timers_197 rfl (lv_at hl 0 rfl) ?_
      refine g_getr hx hb hB inB9 hown hK hH (c0 := 0) h0.1 rfl 46 (by decide) k119 rfl (c1 := 37) rfl dX9_timers_198 ?_
      refine lv_iload_n hx hb dX9_timers_201 rfl (lv_at hl 1 rfl) ?_
      refine lv_bipush (v := 6) hx hb dX9_timers_202 (by decide) ?_
      obtain ⟨hi42, h⟩ := h
      refine g_iast hx hb hK hH (c0 := 37) (i := x1) (mA37 h0) hi42 dX9_timers_204 (fun σ42 eσ42 H locs hH => ?_)
      replace h := h σ42 eσ42
      refine lv_aload_n hx hb dX9_timers_205 rfl (lv_at hl 0 rfl) ?_
      refine g_getr hx hb hB inB9 hown hK hH (c0 := 0) h0.1 rfl 45 (by decide) k116 rfl (c1 := 36) rfl dX9_timers_206 ?_
      refine lv_iload_n hx hb dX9_timers_209 rfl (lv_at hl 1 rfl) ?_
      refine lv_aload_n hx hb dX9_timers_210 rfl (lv_at hl 0 rfl) ?_
      refine g_getr hx hb hB inB9 hown hK hH (c0 := 0) h0.1 rfl 43 (by decide) k110 rfl (c1 := 34) rfl dX9_timers_211 ?_
      refine lv_iload_n hx hb dX9_timers_214 rfl (lv_at hl 1 rfl) ?_
      obtain ⟨hi43, h⟩ := h
      refine g_iald hx hb hK hH (c0 := 34) (mA34 h0) hi43 dX9_timers_215 ?_
      obtain ⟨hi44, h⟩ := h
      refine g_iast hx hb hK hH (c0 := 36) (i := x1) (mA36 h0) hi44 dX9_timers_216 (fun σ44 eσ44 H locs hH => ?_)
      replace h := h σ44 eσ44
      exact L217 x1 σ44 _ _ ls hH (lv_sub hl [0, 1] rfl) h
  have L110 : ∀ (x1 : Int32) (σ : Sg) (H : Heap) (locs : List Loc) (ls : Array Slot), Hx G (aA G s.heap.size) s σ H locs → lv_has ls 3 [(0, .ref (ga G 0)), (1, .int x1)] → wpX9_timers_L110 Q x1 σ → W p l e ({ frames := 2, cells := 0, slots := 0, locals := 51 }) s m args below meth c H locs 0 0 (Zv G Q below args s) (F0 m 110 ls []) := by
    intro x1 σ H locs ls hH hl h
    unfold wpX9_timers_L110 at h
    refine lv_aload_n hx hb dX9_timers_110 rfl (lv_at hl 0 rfl) ?_
    refine g_getr hx hb hB inB9 hown hK hH (c0 := 0) h0.1 rfl 46 (by decide) k119 rfl (c1 := 37) rfl dX9_timers_111 ?_
    refine lv_iload_n hx hb dX9_timers_114 rfl (lv_at hl 1 rfl) ?_
    obtain ⟨hi13, h⟩ := h
    refine g_iald hx hb hK hH (c0 := 37) (mA37 h0) hi13 dX9_timers_115 ?_
    refine lv_if_le (tgt := 217) hx hb dX9_timers_116 (by decide) (fun q14 => ?_) (fun q14 => ?_)
    · replace h := h.1 q14
      exact L217 x1 σ _ _ ls hH (lv_sub hl [0, 1] rfl) h
    · replace h := h.2 q14
      refine lv_aload_n hx hb dX9_timers_119 rfl (lv_at hl 0 rfl) ?_
      refine g_getr hx hb hB inB9 hown hK hH (c0 := 0) h0.1 rfl 46 (by decide) k119 rfl (c1 := 37) rfl dX9_timers_120 ?_
      refine lv_iload_n hx hb dX9_timers_123 rfl (lv_at hl 1 rfl) ?_
      refine lv_dup2_11 hx hb dX9_timers_124 rfl rfl ?_
      obtain ⟨hi15, h⟩ := h
      refine g_iald hx hb hK hH (c0 := 37) (mA37 h0) hi15 dX9_timers_125 ?_
      refine lv_iconst (v := 1) hx hb dX9_timers_126 (by decide) ?_
      refine lv_isub hx hb dX9_timers_127 ?_
      obtain ⟨hi16, h⟩ := h
      refine g_iast hx hb hK hH (c0 := 37) (i := x1) (mA37 h0) hi16 dX9_timers_128 (fun σ16 eσ16 H locs hH => ?_)
      replace h := h σ16 eσ16
      refine lv_aload_n hx hb dX9_timers_129 rfl (lv_at hl 0 rfl) ?_
      refine g_getr hx hb hB inB9 hown hK hH (c0 := 0) h0.1 rfl 46 (by decide) k119 rfl (c1 := 37) rfl dX9_timers_130 ?_
      refine lv_iload_n hx hb dX9_timers_133 rfl (lv_at hl 1 rfl) ?_
      obtain ⟨hi17, h⟩ := h
      refine g_iald hx hb hK hH (c0 := 37) (mA37 h0) hi17 dX9_timers_134 ?_
      refine lv_if_ne (tgt := 217) hx hb dX9_timers_135 (by decide) (fun q18 => ?_) (fun q18 => ?_)
      · replace h := h.1 q18
        exact L217 x1 σ16 _ _ ls hH (lv_sub hl [0, 1] rfl) h
      · replace h := h.2 q18
        refine lv_aload_n hx hb dX9_timers_138 rfl (lv_at hl 0 rfl) ?_
        refine g_getr hx hb hB inB9 hown hK hH (c0 := 0) h0.1 rfl 44 (by decide) k113 rfl (c1 := 35) rfl dX9_timers_139 ?_
        refine lv_iload_n hx hb dX9_timers_142 rfl (lv_at hl 1 rfl) ?_
        obtain ⟨hi19, h⟩ := h
        refine g_iald hx hb hK hH (c0 := 35) (mA35 h0) hi19 dX9_timers_143 ?_
        refine lv_aload_n hx hb dX9_timers_144 rfl (lv_at hl 0 rfl) ?_
        refine g_getr hx hb hB inB9 hown hK hH (c0 := 0) h0.1 rfl 45 (by decide) k116 rfl (c1 := 36) rfl dX9_timers_145 ?_
        refine lv_iload_n hx hb dX9_timers_148 rfl (lv_at hl 1 rfl) ?_
        obtain ⟨hi20, h⟩ := h
        refine g_iald hx hb hK hH (c0 := 36) (mA36 h0) hi20 dX9_timers_149 ?_
        refine lv_icmp_ge (tgt := 165) hx hb dX9_timers_150 (by decide) (fun q21 => ?_) (fun q21 => ?_)
        · replace h := h.1 q21
          exact L165 x1 σ16 _ _ ls hH (lv_sub hl [0, 1] rfl) h
        · replace h := h.2 q21
          refine lv_aload_n hx hb dX9_timers_153 rfl (lv_at hl 0 rfl) ?_
          refine g_getr hx hb hB inB9 hown hK hH (c0 := 0) h0.1 rfl 44 (by decide) k113 rfl (c1 := 35) rfl dX9_timers_154 ?_
          refine lv_iload_n hx hb dX9_timers_157 rfl (lv_at hl 1 rfl) ?_
          refine lv_aload_n hx hb dX9_timers_158 rfl (lv_at hl 0 rfl) ?_
          refine g_getr hx hb hB inB9 hown hK hH (c0 := 0) h0.1 rfl 45 (by decide) k116 rfl (c1 := 36) rfl dX9_timers_159 ?_
          refine lv_iload_n hx hb dX9_timers_162 rfl (lv_at hl 1 rfl) ?_
          obtain ⟨hi22, h⟩ := h
          refine g_iald hx hb hK hH (c0 := 36) (mA36 h0) hi22 dX9_timers_163 ?_
          obtain ⟨hi23, h⟩ := h
          refine g_iast hx hb hK hH (c0 := 35) (i := x1) (mA35 h0) hi23 dX9_timers_164 (fun σ23 eσ23 H locs hH => ?_)
          replace h := h σ23 eσ23
          exact L165 x1 σ23 _ _ ls hH (lv_sub hl [0, 1] rfl) h
  have L67 : ∀ (x1 : Int32) (z0 : Int32) (σ : Sg) (H : Heap) (locs : List Loc) (ls : Array Slot), Hx G (aA G s.heap.size) s σ H locs → lv_has ls 3 [(0, .ref (ga G 0)), (1, .int x1)] → wpX9_timers_L67 Q x1 z0 σ → W p l e ({ frames := 2, cells := 0, slots := 0, locals := 51 }) s m args below meth c H locs 0 0 (Zv G Q below args s) (F0 m 67 ls [.int z0]) := by
    intro x1 z0 σ H locs ls hH hl h
    unfold wpX9_timers_L67 at h
    refine lv_istore_n (lv' := [(2, .int z0), (0, .ref (ga G 0)), (1, .int x1)]) hx hb dX9_timers_67 rfl hl (by decide) rfl (fun ls hl => ?_)
    refine lv_aload_n hx hb dX9_timers_68 rfl (lv_at hl 1 rfl) ?_
    refine lv_iload_n hx hb dX9_timers_69 rfl (lv_at hl 2 rfl) ?_
    refine g_callVi (As := [.int x1]) (rest := []) ⟨hx, hb, hml, hown, hB⟩ hK hX aA_hA hH (c0 := 0) (tX9_allAgain h0 h) (cwV 1 hB gVX9_289 rfl rfl rfl (by decide +kernel) ⟨Nat.le_of_ble_eq_true rfl, Nat.le_of_ble_eq_true rfl⟩) h0.1 rfl rfl hl.1 rfl (lv_room (Nat.le_of_ble_eq_true rfl)) ⟨Nat.zero_le _, Nat.zero_le _⟩ dX9_timers_70 (fun r24 σ24 H locs h hH => ?_)
    refine lv_if_ne (tgt := 110) hx hb dX9_timers_73 (by decide) (fun q25 => ?_) (fun q25 => ?_)
    · replace h := h.1 q25
      exact L110 x1 σ24 _ _ ls hH (lv_sub hl [1, 2] rfl) h
    · replace h := h.2 q25
      refine lv_aload_n hx hb dX9_timers_76 rfl (lv_at hl 1 rfl) ?_
      refine g_getr hx hb hB inB9 hown hK hH (c0 := 0) h0.1 rfl 12 (by decide) k16 rfl (c1 := 3) rfl dX9_timers_77 ?_
      refine lv_iload_n hx hb dX9_timers_80 rfl (lv_at hl 2 rfl) ?_
      obtain ⟨hi26, h⟩ := h
      refine g_iald hx hb hK hH (c0 := 3) (mA3 h0) hi26 dX9_timers_81 ?_
      refine lv_aload_n hx hb dX9_timers_82 rfl (lv_at hl 1 rfl) ?_
      refine g_getr hx hb hB inB9 hown hK hH (c0 := 0) h0.1 rfl 13 (by decide) k19 rfl (c1 := 4) rfl dX9_timers_83 ?_
      refine lv_iload_n hx hb dX9_timers_86 rfl (lv_at hl 2 rfl) ?_
      obtain ⟨hi27, h⟩ := h
      refine g_iald hx hb hK hH (c0 := 4) (mA4 h0) hi27 dX9_timers_87 ?_
      refine lv_icmp_ge (tgt := 110) hx hb dX9_timers_88 (by decide) (fun q28 => ?_) (fun q28 => ?_)
      · replace h := h.1 q28
        exact L110 x1 σ24 _ _ ls hH (lv_sub hl [1, 2] rfl) h
      · replace h := h.2 q28
        refine lv_iload_n hx hb dX9_timers_91 rfl (lv_at hl 0 rfl) ?_
        refine lv_if_eq (tgt := 110) hx hb dX9_timers_92 (by decide) (fun q29 => ?_) (fun q29 => ?_)
        · replace h := h.1 q29
          exact L110 x1 σ24 _ _ ls hH (lv_sub hl [1, 2] rfl) h
        · replace h := h.2 q29
          refine lv_aload_n hx hb dX9_timers_95 rfl (lv_at hl 1 rfl) ?_
          refine lv_iload_n hx hb dX9_timers_96 rfl (lv_at hl 2 rfl) ?_
          refine lv_aload_n hx hb dX9_timers_97 rfl (lv_at hl 1 rfl) ?_
          refine g_getr hx hb hB inB9 hown hK hH (c0 := 0) h0.1 rfl 12 (by decide) k16 rfl (c1 := 3) rfl dX9_timers_98 ?_
          refine lv_iload_n hx hb dX9_timers_101 rfl (lv_at hl 2 rfl) ?_
          obtain ⟨hi30, h⟩ := h
          refine g_iald hx hb hK hH (c0 := 3) (mA3 h0) hi30 dX9_timers_102 ?_
          refine lv_iconst (v := 0) hx hb dX9_timers_103 (by decide) ?_
          refine lv_sipush (v := 240) hx hb dX9_timers_104 (by decide) ?_
          refine g_callVv (As := [.int x1, .int (σ24 3 x1.toNatClampNeg), .int 0, .int 240]) (rest := []) ⟨hx, hb, hml, hown, hB⟩ hK hX aA_hA hH (c0 := 0) (tX9_comesAgain h0 h) (cwV 4 hB gVX9_327 rfl rfl rfl (by decide +kernel) ⟨Nat.le_of_ble_eq_true rfl, Nat.le_of_ble_eq_true rfl⟩) h0.1 rfl rfl hl.1 rfl (lv_room (Nat.le_of_ble_eq_true rfl)) ⟨Nat.zero_le _, Nat.zero_le _⟩ dX9_timers_107 (fun σ31 H locs h hH => ?_)
          exact L110 x1 σ31 _ _ ls hH (lv_sub hl [1, 2] rfl) h
  have L62 : ∀ (x1 : Int32) (σ : Sg) (H : Heap) (locs : List Loc) (ls : Array Slot), Hx G (aA G s.heap.size) s σ H locs → lv_has ls 3 [(0, .ref (ga G 0)), (1, .int x1)] → wpX9_timers_L62 Q x1 σ → W p l e ({ frames := 2, cells := 0, slots := 0, locals := 51 }) s m args below meth c H locs 0 0 (Zv G Q below args s) (F0 m 62 ls []) := by
    intro x1 σ H locs ls hH hl h
    unfold wpX9_timers_L62 at h
    refine lv_iconst (v := 1) hx hb dX9_timers_62 (by decide) ?_
    refine lv_goto (tgt := 67) hx hb dX9_timers_63 (by decide) ?_
    exact L67 x1 1 σ _ _ ls hH (lv_sub hl [0, 1] rfl) h
  unfold wpX9_timers at h
  refine lv_aload_n hx hb dX9_timers_0 rfl (lv_at hl 0 rfl) ?_
  refine g_getr hx hb hB inB9 hown hK hH (c0 := 0) h0.1 rfl 14 (by decide) k22 rfl (c1 := 5) rfl dX9_timers_1 ?_
  refine lv_iload_n hx hb dX9_timers_4 rfl (lv_at hl 1 rfl) ?_
  obtain ⟨hi1, h⟩ := h
  refine g_iald hx hb hK hH (c0 := 5) (mA5 h0) hi1 dX9_timers_5 ?_
  refine lv_if_le (tgt := 110) hx hb dX9_timers_6 (by decide) (fun q2 => ?_) (fun q2 => ?_)
  · replace h := h.1 q2
    exact L110 x1 σ _ _ ls hH (lv_sub hl [0, 1] rfl) h
  · replace h := h.2 q2
    refine lv_aload_n hx hb dX9_timers_9 rfl (lv_at hl 0 rfl) ?_
    refine g_getr hx hb hB inB9 hown hK hH (c0 := 0) h0.1 rfl 14 (by decide) k22 rfl (c1 := 5) rfl dX9_timers_10 ?_
    refine lv_iload_n hx hb dX9_timers_13 rfl (lv_at hl 1 rfl) ?_
    refine lv_dup2_11 hx hb dX9_timers_14 rfl rfl ?_
    obtain ⟨hi3, h⟩ := h
    refine g_iald hx hb hK hH (c0 := 5) (mA5 h0) hi3 dX9_timers_15 ?_
    refine lv_iconst (v := 1) hx hb dX9_timers_16 (by decide) ?_
    refine lv_isub hx hb dX9_timers_17 ?_
    obtain ⟨hi4, h⟩ := h
    refine g_iast hx hb hK hH (c0 := 5) (i := x1) (mA5 h0) hi4 dX9_timers_18 (fun σ4 eσ4 H locs hH => ?_)
    replace h := h σ4 eσ4
    refine lv_aload_n hx hb dX9_timers_19 rfl (lv_at hl 0 rfl) ?_
    refine g_getr hx hb hB inB9 hown hK hH (c0 := 0) h0.1 rfl 14 (by decide) k22 rfl (c1 := 5) rfl dX9_timers_20 ?_
    refine lv_iload_n hx hb dX9_timers_23 rfl (lv_at hl 1 rfl) ?_
    obtain ⟨hi5, h⟩ := h
    refine g_iald hx hb hK hH (c0 := 5) (mA5 h0) hi5 dX9_timers_24 ?_
    refine lv_if_ne (tgt := 110) hx hb dX9_timers_25 (by decide) (fun q6 => ?_) (fun q6 => ?_)
    · replace h := h.1 q6
      exact L110 x1 σ4 _ _ ls hH (lv_sub hl [0, 1] rfl) h
    · replace h := h.2 q6
      refine lv_aload_n hx hb dX9_timers_28 rfl (lv_at hl 0 rfl) ?_
      refine g_getr hx hb hB inB9 hown hK hH (c0 := 0) h0.1 rfl 21 (by decide) k43 rfl (c1 := 12) rfl dX9_timers_29 ?_
      refine lv_iload_n hx hb dX9_timers_32 rfl (lv_at hl 1 rfl) ?_
      refine lv_iconst (v := 1) hx hb dX9_timers_33 (by decide) ?_
      obtain ⟨hi7, h⟩ := h
      refine g_zast hx hb hK hH (c0 := 12) (i := x1) (mA12 h0) vz1 hi7 dX9_timers_34 (fun σ7 eσ7 H locs hH => ?_)
      replace h := h σ7 eσ7
      refine lv_aload_n hx hb dX9_timers_35 rfl (lv_at hl 0 rfl) ?_
      refine g_getr hx hb hB inB9 hown hK hH (c0 := 0) h0.1 rfl 31 (by decide) k74 rfl (c1 := 22) rfl dX9_timers_36 ?_
      refine lv_iload_n hx hb dX9_timers_39 rfl (lv_at hl 1 rfl) ?_
      obtain ⟨hi8, h⟩ := h
      refine g_iald hx hb hK hH (c0 := 22) (mA22 h0) hi8 dX9_timers_40 ?_
      refine lv_if_eq (tgt := 62) hx hb dX9_timers_41 (by decide) (fun q9 => ?_) (fun q9 => ?_)
      · replace h := h.1 q9
        exact L62 x1 σ7 _ _ ls hH (lv_sub hl [0, 1] rfl) h
      · replace h := h.2 q9
        refine lv_aload_n hx hb dX9_timers_44 rfl (lv_at hl 0 rfl) ?_
        refine g_getr hx hb hB inB9 hown hK hH (c0 := 0) h0.1 rfl 13 (by decide) k19 rfl (c1 := 4) rfl dX9_timers_45 ?_
        refine lv_iload_n hx hb dX9_timers_48 rfl (lv_at hl 1 rfl) ?_
        obtain ⟨hi10, h⟩ := h
        refine g_iald hx hb hK hH (c0 := 4) (mA4 h0) hi10 dX9_timers_49 ?_
        refine lv_aload_n hx hb dX9_timers_50 rfl (lv_at hl 0 rfl) ?_
        refine g_getr hx hb hB inB9 hown hK hH (c0 := 0) h0.1 rfl 12 (by decide) k16 rfl (c1 := 3) rfl dX9_timers_51 ?_
        refine lv_iload_n hx hb dX9_timers_54 rfl (lv_at hl 1 rfl) ?_
        obtain ⟨hi11, h⟩ := h
        refine g_iald hx hb hK hH (c0 := 3) (mA3 h0) hi11 dX9_timers_55 ?_
        refine lv_isub hx hb dX9_timers_56 ?_
        refine lv_bipush (v := 16) hx hb dX9_timers_57 (by decide) ?_
        refine lv_icmp_ne (tgt := 66) hx hb dX9_timers_59 (by decide) (fun q12 => ?_) (fun q12 => ?_)
        · replace h := h.1 q12
          refine lv_iconst (v := 0) hx hb dX9_timers_66 (by decide) ?_
          exact L67 x1 0 σ7 _ _ ls hH (lv_sub hl [0, 1] rfl) h
        · replace h := h.2 q12
          exact L62 x1 σ7 _ _ ls hH (lv_sub hl [0, 1] rfl) h
def wpX9_lay_L257 (Q : Int32 → Sg → Prop) (K232 : Int32 → Int32 → Int32 → Sg → Prop) (x2 : Int32) (x3 : Int32) (x4 : Int32) (z0 : Int32) (z1 : Int32) (y2 : Nat) (σ : Sg) : Prop := (vp_in z1 250 ∧ ∀ σ11 : Sg, σ11 = up2 σ y2 z1.toNatClampNeg z0 → ∀ x4_12 : Int32, x4_12 = x4 + 1 → K232 x2 x3 x4_12 σ11)
def wpX9_lay_L232 (Q : Int32 → Sg → Prop) : Nat → Int32 → Int32 → Int32 → Sg → Prop
  | 0, _, _, _, _ => False
  | n + 1, x2, x3, x4, σ => ((x2 ≤ x4 → Q 1 σ) ∧ (¬ (x2 ≤ x4) → ((¬ x4 = x3 → wpX9_lay_L257 Q (wpX9_lay_L232 Q n) x2 x3 x4 0 x4 72 σ) ∧ (x4 = x3 → wpX9_lay_L257 Q (wpX9_lay_L232 Q n) x2 x3 x4 255 x4 72 σ))))
def wpX9_lay_L156 (Q : Int32 → Sg → Prop) (K5 : Int32 → Int32 → Int32 → Int32 → Sg → Prop) (K14 : Int32 → Int32 → Int32 → Int32 → Int32 → Sg → Prop) (K54 : Int32 → Int32 → Int32 → Int32 → Int32 → Int32 → Int32 → Sg → Prop) : Nat → Int32 → Int32 → Int32 → Int32 → Int32 → Int32 → Int32 → Int32 → Int32 → Sg → Prop
  | 0, _, _, _, _, _, _, _, _, _, _ => False
  | n + 1, x1, x2, x3, x4, x5, x6, x7, x9, x10, σ => ((x9 ≤ x10 → ∀ x3_28 : Int32, x3_28 = x3 + (x9 + 2) → (vp_in x6 6 ∧ (vp_in x6 6 ∧ ∀ σ30 : Sg, σ30 = up2 σ 8 x6.toNatClampNeg ((σ 8 x6.toNatClampNeg) - (x9 + 2)) → K54 x1 x2 x3_28 x4 x5 x6 x7 σ30))) ∧ (¬ (x9 ≤ x10) → (vp_in x10 250 ∧ (vp_in ((x3 + 2) + x10) 250 ∧ ∀ σ32 : Sg, σ32 = up2 σ 72 (((x3 + 2) + x10).toNatClampNeg) (σ 66 x10.toNatClampNeg) → ∀ x10_33 : Int32, x10_33 = x10 + 1 → (wpX9_lay_L156 Q K5 K14 K54 n) x1 x2 x3 x4 x5 x6 x7 x9 x10_33 σ32))))
def wpX9_lay_L125 (Q : Int32 → Sg → Prop) (K5 : Int32 → Int32 → Int32 → Int32 → Sg → Prop) (K14 : Int32 → Int32 → Int32 → Int32 → Int32 → Sg → Prop) (K54 : Int32 → Int32 → Int32 → Int32 → Int32 → Int32 → Int32 → Sg → Prop) (x1 : Int32) (x2 : Int32) (x3 : Int32) (x4 : Int32) (x5 : Int32) (x6 : Int32) (x9 : Int32) (z0 : Int32) (σ : Sg) : Prop := ((¬ z0 = 0 → (vp_in x3 250 ∧ ∀ σ25 : Sg, σ25 = up2 σ 72 x3.toNatClampNeg x5 → (vp_in (x3 + 1) 250 ∧ ∀ σ26 : Sg, σ26 = up2 σ25 72 ((x3 + 1).toNatClampNeg) x9 → ∃ nn, wpX9_lay_L156 Q K5 K14 K54 nn x1 x2 x3 x4 x5 x6 z0 x9 0 σ26))) ∧ (z0 = 0 → K54 x1 x2 x3 x4 x5 x6 z0 σ))
def wpX9_lay_L113 (Q : Int32 → Sg → Prop) (K5 : Int32 → Int32 → Int32 → Int32 → Sg → Prop) (K14 : Int32 → Int32 → Int32 → Int32 → Int32 → Sg → Prop) (K54 : Int32 → Int32 → Int32 → Int32 → Int32 → Int32 → Int32 → Sg → Prop) (x1 : Int32) (x2 : Int32) (x3 : Int32) (x4 : Int32) (x5 : Int32) (x6 : Int32) (z0 : Int32) (σ : Sg) : Prop := ((z0 ≤ 0 → wpX9_lay_L125 Q K5 K14 K54 x1 x2 x3 x4 x5 x6 z0 0 σ) ∧ (¬ (z0 ≤ 0) → wpX9_lay_L125 Q K5 K14 K54 x1 x2 x3 x4 x5 x6 z0 1 σ))
def wpX9_lay_L90 (Q : Int32 → Sg → Prop) (K5 : Int32 → Int32 → Int32 → Int32 → Sg → Prop) (K14 : Int32 → Int32 → Int32 → Int32 → Int32 → Sg → Prop) (K54 : Int32 → Int32 → Int32 → Int32 → Int32 → Int32 → Int32 → Sg → Prop) (x1 : Int32) (x2 : Int32) (x3 : Int32) (x4 : Int32) (x5 : Int32) (x6 : Int32) (x8 : Int32) (σ : Sg) : Prop := ((1 ≤ (x8 - 2) → wpX9_make x1 x5 (x8 - 2) σ (fun r22 σ22 => wpX9_lay_L113 Q K5 K14 K54 x1 x2 x3 x4 x5 x6 r22 σ22)) ∧ (¬ (1 ≤ (x8 - 2)) → wpX9_lay_L113 Q K5 K14 K54 x1 x2 x3 x4 x5 x6 0 σ))
def wpX9_lay_L54 (Q : Int32 → Sg → Prop) (K5 : Int32 → Int32 → Int32 → Int32 → Sg → Prop) (K14 : Int32 → Int32 → Int32 → Int32 → Int32 → Sg → Prop) : Nat → Int32 → Int32 → Int32 → Int32 → Int32 → Int32 → Int32 → Sg → Prop
  | 0, _, _, _, _, _, _, _, _ => False
  | n + 1, x1, x2, x3, x4, x5, x6, x7, σ => ((x7 = 0 → ∀ x5_14 : Int32, x5_14 = x5 + 1 → K14 x1 x2 x3 x4 x5_14 σ) ∧ (¬ (x7 = 0) → ∀ x8_15 : Int32, x8_15 = x2 - x3 → ((¬ x4 = 0 → wpX9_lay_L90 Q K5 K14 (wpX9_lay_L54 Q K5 K14 n) x1 x2 x3 x4 x5 x6 x8_15 σ) ∧ (x4 = 0 → (vp_in x6 6 ∧ ((x8_15 ≤ (σ 8 x6.toNatClampNeg) → wpX9_lay_L90 Q K5 K14 (wpX9_lay_L54 Q K5 K14 n) x1 x2 x3 x4 x5 x6 x8_15 σ) ∧ (¬ (x8_15 ≤ (σ 8 x6.toNatClampNeg)) → (vp_in x6 6 ∧ ∀ x8_20 : Int32, x8_20 = σ 8 x6.toNatClampNeg → wpX9_lay_L90 Q K5 K14 (wpX9_lay_L54 Q K5 K14 n) x1 x2 x3 x4 x5 x6 x8_20 σ))))))))
def wpX9_lay_L52 (Q : Int32 → Sg → Prop) (K5 : Int32 → Int32 → Int32 → Int32 → Sg → Prop) (K14 : Int32 → Int32 → Int32 → Int32 → Int32 → Sg → Prop) (x1 : Int32) (x2 : Int32) (x3 : Int32) (x4 : Int32) (x5 : Int32) (x6 : Int32) (z0 : Int32) (σ : Sg) : Prop := ∃ nn, wpX9_lay_L54 Q K5 K14 nn x1 x2 x3 x4 x5 x6 z0 σ
def wpX9_lay_L47 (Q : Int32 → Sg → Prop) (K5 : Int32 → Int32 → Int32 → Int32 → Sg → Prop) (K14 : Int32 → Int32 → Int32 → Int32 → Int32 → Sg → Prop) (x1 : Int32) (x2 : Int32) (x3 : Int32) (x4 : Int32) (x5 : Int32) (x6 : Int32) (σ : Sg) : Prop := wpX9_lay_L52 Q K5 K14 x1 x2 x3 x4 x5 x6 1 σ
def wpX9_lay_L14 (Q : Int32 → Sg → Prop) (K5 : Int32 → Int32 → Int32 → Int32 → Sg → Prop) : Nat → Int32 → Int32 → Int32 → Int32 → Int32 → Sg → Prop
  | 0, _, _, _, _, _, _ => False
  | n + 1, x1, x2, x3, x4, x5, σ => (((σ 0 0) ≤ x5 → ∀ x4_6 : Int32, x4_6 = x4 + 1 → K5 x1 x2 x3 x4_6 σ) ∧ (¬ ((σ 0 0) ≤ x5) → wpX9_at x1 x5 σ (fun r7 σ7 => ((x4 = 1 → wpX9_lay_L47 Q K5 (wpX9_lay_L14 Q K5 n) x1 x2 x3 x4 x5 r7 σ7) ∧ (¬ (x4 = 1) → (vp_in r7 6 ∧ (((σ7 8 r7.toNatClampNeg) ≤ 0 → wpX9_lay_L52 Q K5 (wpX9_lay_L14 Q K5 n) x1 x2 x3 x4 x5 r7 0 σ7) ∧ (¬ ((σ7 8 r7.toNatClampNeg) ≤ 0) → wpX9_lay_L47 Q K5 (wpX9_lay_L14 Q K5 n) x1 x2 x3 x4 x5 r7 σ7))))))))
def wpX9_lay_L5 (Q : Int32 → Sg → Prop) : Nat → Int32 → Int32 → Int32 → Int32 → Sg → Prop
  | 0, _, _, _, _, _ => False
  | n + 1, x1, x2, x3, x4, σ => ((2 ≤ x4 → ((¬ x3 = 0 → ∃ nn, wpX9_lay_L232 Q nn x2 x3 x3 σ) ∧ (x3 = 0 → Q 0 σ))) ∧ (¬ (2 ≤ x4) → ∃ nn, wpX9_lay_L14 Q (wpX9_lay_L5 Q n) nn x1 x2 x3 x4 0 σ))
def wpX9_lay (x1 : Int32) (x2 : Int32) (σ : Sg) (Q : Int32 → Sg → Prop) : Prop := ∃ nn, wpX9_lay_L5 Q nn x1 x2 0 0 σ
set_option maxHeartbeats 8000000 in
set_option maxRecDepth 100000 in
theorem tX9_lay {l : Launch} {G : GG} {x1 : Int32} {x2 : Int32} {σ : Sg} {Q : Int32 → Sg → Prop} (h0 : isModel G) (h : wpX9_lay x1 x2 σ Q) : Ki l G yX9_lay (wB yX9_lay prog_11_method_45_code 11 (Option.some FieldType.boolean)) ({ frames := 5, cells := 0, slots := 0, locals := 136 }) [.ref (ga G 0), .int x1, .int x2] σ Q := by
  refine K_of (cc := cX9_lay) (maxL := 11) (ret := (some .boolean)) (by decide) rfl (Nat.le_of_ble_eq_true rfl) ?_
  intro p e s m args below meth c ls B hH hl
  obtain ⟨hx, hb, hr, hts, hown, hlk, hml, hK, hX⟩ := B
  replace hl : lv_has ls 11 [(0, .ref (ga G 0)), (1, .int x1), (2, .int x2)] := hl
  have hB : ∀ w ∈ BIG, w.before args s = true := fun w h9 => hts w (List.mem_cons_of_mem _ h9)
  clear hts
  have k31 := hB _ bw4_127
  have k207 := hB _ bw4_185
  have k225 := hB _ bw4_191
  have k228 := hB _ bw4_110
  have L232 : ∀ (n232 : Nat) (x2 : Int32) (x3 : Int32) (x4 : Int32) (σ : Sg) (H : Heap) (locs : List Loc) (ls : Array Slot), Hx G (aA G s.heap.size) s σ H locs → lv_has ls 11 [(0, .ref (ga G 0)), (2, .int x2), (3, .int x3), (4, .int x4)] → wpX9_lay_L232 Q n232 x2 x3 x4 σ → W p l e ({ frames := 5, cells := 0, slots := 0, locals := 136 }) s m args below meth c H locs 0 0 (Zi G Q below args s) (F0 m 232 ls []) := by
    intro n232
    induction n232 with
    | zero =>
      intro x2 x3 x4 σ H locs ls hH hl h
      exact False.elim h
    | succ n232 ih232 =>
      have L257 : ∀ (x2 : Int32) (x3 : Int32) (x4 : Int32) (z0 : Int32) (z1 : Int32) (y2 : Nat) (hy2 : isI G 250 y2) (σ : Sg) (H : Heap) (locs : List Loc) (ls : Array Slot), Hx G (aA G s.heap.size) s σ H locs → lv_has ls 11 [(0, .ref (ga G 0)), (2, .int x2), (3, .int x3), (4, .int x4)] → wpX9_lay_L257 Q (wpX9_lay_L232 Q n232) x2 x3 x4 z0 z1 y2 σ → W p l e ({ frames := 5, cells := 0, slots := 0, locals := 136 }) s m args below meth c H locs 0 0 (Zi G Q below args s) (F0 m 257 ls [.int z0, .int z1, .ref (ga G y2)]) := by
        intro x2 x3 x4 z0 z1 y2 hy2 σ H locs ls hH hl h
        unfold wpX9_lay_L257 at h
        obtain ⟨hi11, h⟩ := h
        refine g_iast hx hb hK hH (c0 := y2) (i := z1) hy2 hi11 dX9_lay_257 (fun σ11 eσ11 H locs hH => ?_)
        replace h := h σ11 eσ11
        obtain ⟨x4_12, ex4_12⟩ : ∃ y : Int32, y = x4 + 1 := ⟨_, rfl⟩
        replace h := h x4_12 ex4_12
        refine lv_iinc (v := x4_12) (lv' := [(4, .int x4_12), (0, .ref (ga G 0)), (2, .int x2), (3, .int x3)]) hx hb dX9_lay_258 hl (k := 3) rfl (by rw [ex4_12]; rfl) (by decide) rfl (fun ls hl => ?_)
        refine lv_goto (tgt := 232) hx hb dX9_lay_261 (by decide) ?_
        exact ih232 x2 x3 x4_12 σ11 _ _ ls hH (lv_sub hl [1, 2, 3, 0] rfl) h
      intro x2 x3 x4 σ H locs ls hH hl h
      unfold wpX9_lay_L232 at h
      refine lv_iload hx hb dX9_lay_232 (lv_at hl 3 rfl) ?_
      refine lv_iload_n hx hb dX9_lay_234 rfl (lv_at hl 1 rfl) ?_
      refine lv_icmp_ge (tgt := 264) hx hb dX9_lay_235 (by decide) (fun q3 => ?_) (fun q3 => ?_)
      · replace h := h.1 q3
        refine lv_iconst (v := 1) hx hb dX9_lay_264 (by decide) ?_
        exact g_zret hx hb hr hK hlk vz1 h hH dX9_lay_265
      · replace h := h.2 q3
        refine lv_aload_n hx hb dX9_lay_238 rfl (lv_at hl 0 rfl) ?_
        refine g_getr hx hb hB inB9 hown hK hH (c0 := 0) h0.1 rfl 81 (by decide) k225 rfl (c1 := 72) rfl dX9_lay_239 ?_
        refine lv_iload hx hb dX9_lay_242 (lv_at hl 3 rfl) ?_
        refine lv_iload hx hb dX9_lay_244 (lv_at hl 3 rfl) ?_
        refine lv_iload_n hx hb dX9_lay_246 rfl (lv_at hl 2 rfl) ?_
        refine lv_icmp_ne (tgt := 256) hx hb dX9_lay_247 (by decide) (fun q4 => ?_) (fun q4 => ?_)
        · replace h := h.1 q4
          refine lv_iconst (v := 0) hx hb dX9_lay_256 (by decide) ?_
          exact L257 x2 x3 x4 0 x4 72 ((mA72 h0)) σ _ _ ls hH (lv_sub hl [0, 1, 2, 3] rfl) h
        · replace h := h.2 q4
          refine lv_sipush (v := 255) hx hb dX9_lay_250 (by decide) ?_
          refine lv_goto (tgt := 257) hx hb dX9_lay_253 (by decide) ?_
          exact L257 x2 x3 x4 255 x4 72 ((mA72 h0)) σ _ _ ls hH (lv_sub hl [0, 1, 2, 3] rfl) h
  have L5 : ∀ (n5 : Nat) (x1 : Int32) (x2 : Int32) (x3 : Int32) (x4 : Int32) (σ : Sg) (H : Heap) (locs : List Loc) (ls : Array Slot), Hx G (aA G s.heap.size) s σ H locs → lv_has ls 11 [(0, .ref (ga G 0)), (1, .int x1), (2, .int x2), (3, .int x3), (4, .int x4)] → wpX9_lay_L5 Q n5 x1 x2 x3 x4 σ → W p l e ({ frames := 5, cells := 0, slots := 0, locals := 136 }) s m args below meth c H locs 0 0 (Zi G Q below args s) (F0 m 5 ls []) := by
    intro n5
    induction n5 with
    | zero =>
      intro x1 x2 x3 x4 σ H locs ls hH hl h
      exact False.elim h
    | succ n5 ih5 =>
      have L14 : ∀ (n14 : Nat) (x1 : Int32) (x2 : Int32) (x3 : Int32) (x4 : Int32) (x5 : Int32) (σ : Sg) (H : Heap) (locs : List Loc) (ls : Array Slot), Hx G (aA G s.heap.size) s σ H locs → lv_has ls 11 [(0, .ref (ga G 0)), (1, .int x1), (2, .int x2), (3, .int x3), (4, .int x4), (5, .int x5)] → wpX9_lay_L14 Q (wpX9_lay_L5 Q n5) n14 x1 x2 x3 x4 x5 σ → W p l e ({ frames := 5, cells := 0, slots := 0, locals := 136 }) s m args below meth c H locs 0 0 (Zi G Q below args s) (F0 m 14 ls []) := by
        intro n14
        induction n14 with
        | zero =>
          intro x1 x2 x3 x4 x5 σ H locs ls hH hl h
          exact False.elim h
        | succ n14 ih14 =>
          have L54 : ∀ (n54 : Nat) (x1 : Int32) (x2 : Int32) (x3 : Int32) (x4 : Int32) (x5 : Int32) (x6 : Int32) (x7 : Int32) (σ : Sg) (H : Heap) (locs : List Loc) (ls : Array Slot), Hx G (aA G s.heap.size) s σ H locs → lv_has ls 11 [(0, .ref (ga G 0)), (1, .int x1), (2, .int x2), (3, .int x3), (4, .int x4), (5, .int x5), (6, .int x6), (7, .int x7)] → wpX9_lay_L54 Q (wpX9_lay_L5 Q n5) (wpX9_lay_L14 Q (wpX9_lay_L5 Q n5) n14) n54 x1 x2 x3 x4 x5 x6 x7 σ → W p l e ({ frames := 5, cells := 0, slots := 0, locals := 136 }) s m args below meth c H locs 0 0 (Zi G Q below args s) (F0 m 54 ls []) := by
            intro n54
            induction n54 with
            | zero =>
              intro x1 x2 x3 x4 x5 x6 x7 σ H locs ls hH hl h
              exact False.elim h
            | succ n54 ih54 =>
              have L156 : ∀ (n156 : Nat) (x1 : Int32) (x2 : Int32) (x3 : Int32) (x4 : Int32) (x5 : Int32) (x6 : Int32) (x7 : Int32) (x9 : Int32) (x10 : Int32) (σ : Sg) (H : Heap) (locs : List Loc) (ls : Array Slot), Hx G (aA G s.heap.size) s σ H locs → lv_has ls 11 [(0, .ref (ga G 0)), (1, .int x1), (2, .int x2), (3, .int x3), (4, .int x4), (5, .int x5), (6, .int x6), (7, .int x7), (9, .int x9), (10, .int x10)] → wpX9_lay_L156 Q (wpX9_lay_L5 Q n5) (wpX9_lay_L14 Q (wpX9_lay_L5 Q n5) n14) (wpX9_lay_L54 Q (wpX9_lay_L5 Q n5) (wpX9_lay_L14 Q (wpX9_lay_L5 Q n5) n14) n54) n156 x1 x2 x3 x4 x5 x6 x7 x9 x10 σ → W p l e ({ frames := 5, cells := 0, slots := 0, locals := 136 }) s m args below meth c H locs 0 0 (Zi G Q below args s) (F0 m 156 ls []) := by
                intro n156
                induction n156 with
                | zero =>
                  intro x1 x2 x3 x4 x5 x6 x7 x9 x10 σ H locs ls hH hl h
                  exact False.elim h
                | succ n156 ih156 =>
                  intro x1 x2 x3 x4 x5 x6 x7 x9 x10 σ H locs ls hH hl h
                  unfold wpX9_lay_L156 at h
                  refine lv_iload hx hb dX9_lay_156 (lv_at hl 9 rfl) ?_
                  refine lv_iload hx hb dX9_lay_158 (lv_at hl 8 rfl) ?_
                  refine lv_icmp_ge (tgt := 187) hx hb dX9_lay_160 (by decide) (fun q27 => ?_) (fun q27 => ?_)
                  · replace h := h.1 q27
                    refine lv_iload_n hx hb dX9_lay_187 rfl (lv_at hl 3 rfl) ?_
                    refine lv_iload hx hb dX9_lay_188 (lv_at hl 8 rfl) ?_
                    refine lv_iconst (v := 2) hx hb dX9_lay_190 (by decide) ?_
                    refine lv_iadd hx hb dX9_lay_191 ?_
                    refine lv_iadd hx hb dX9_lay_192 ?_
                    refine lv_topi (fun x3_28 ex3_28 => ?_)
                    replace h := h x3_28 ex3_28
                    refine lv_istore_n (lv' := [(3, .int x3_28), (0, .ref (ga G 0)), (1, .int x1), (2, .int x2), (4, .int x4), (5, .int x5), (6, .int x6), (7, .int x7), (9, .int x9), (10, .int x10)]) hx hb dX9_lay_193 rfl hl (by decide) rfl (fun ls hl => ?_)
                    refine lv_aload_n hx hb dX9_lay_194 rfl (lv_at hl 1 rfl) ?_
                    refine g_getr hx hb hB inB9 hown hK hH (c0 := 0) h0.1 rfl 17 (by decide) k31 rfl (c1 := 8) rfl dX9_lay_195 ?_
                    refine lv_iload hx hb dX9_lay_198 (lv_at hl 6 rfl) ?_
                    refine lv_dup2_11 hx hb dX9_lay_200 rfl rfl ?_
                    obtain ⟨hi29, h⟩ := h
                    refine g_iald hx hb hK hH (c0 := 8) (mA8 h0) hi29 dX9_lay_201 ?_
                    refine lv_iload hx hb dX9_lay_202 (lv_at hl 8 rfl) ?_
                    refine lv_iconst (v := 2) hx hb dX9_lay_204 (by decide) ?_
                    refine lv_iadd hx hb dX9_lay_205 ?_
                    refine lv_isub hx hb dX9_lay_206 ?_
                    obtain ⟨hi30, h⟩ := h
                    refine g_iast hx hb hK hH (c0 := 8) (i := x6) (mA8 h0) hi30 dX9_lay_207 (fun σ30 eσ30 H locs hH => ?_)
                    replace h := h σ30 eσ30
                    refine lv_goto (tgt := 54) hx hb dX9_lay_208 (by decide) ?_
                    exact ih54 x1 x2 x3_28 x4 x5 x6 x7 σ30 _ _ ls hH (lv_sub hl [1, 2, 3, 0, 4, 5, 6, 7] rfl) h
                  · replace h := h.2 q27
                    refine lv_aload_n hx hb dX9_lay_163 rfl (lv_at hl 0 rfl) ?_
                    refine g_getr hx hb hB inB9 hown hK hH (c0 := 0) h0.1 rfl 81 (by decide) k225 rfl (c1 := 72) rfl dX9_lay_164 ?_
                    refine lv_iload_n hx hb dX9_lay_167 rfl (lv_at hl 3 rfl) ?_
                    refine lv_iconst (v := 2) hx hb dX9_lay_168 (by decide) ?_
                    refine lv_iadd hx hb dX9_lay_169 ?_
                    refine lv_iload hx hb dX9_lay_170 (lv_at hl 9 rfl) ?_
                    refine lv_iadd hx hb dX9_lay_172 ?_
                    refine lv_aload_n hx hb dX9_lay_173 rfl (lv_at hl 0 rfl) ?_
                    refine g_getr hx hb hB inB9 hown hK hH (c0 := 0) h0.1 rfl 75 (by decide) k207 rfl (c1 := 66) rfl dX9_lay_174 ?_
                    refine lv_iload hx hb dX9_lay_177 (lv_at hl 9 rfl) ?_
                    obtain ⟨hi31, h⟩ := h
                    refine g_iald hx hb hK hH (c0 := 66) (mA66 h0) hi31 dX9_lay_179 ?_
                    obtain ⟨hi32, h⟩ := h
                    refine g_iast hx hb hK hH (c0 := 72) (i := (x3 + 2) + x10) (mA72 h0) hi32 dX9_lay_180 (fun σ32 eσ32 H locs hH => ?_)
                    replace h := h σ32 eσ32
                    obtain ⟨x10_33, ex10_33⟩ : ∃ y : Int32, y = x10 + 1 := ⟨_, rfl⟩
                    replace h := h x10_33 ex10_33
                    refine lv_iinc (v := x10_33) (lv' := [(10, .int x10_33), (0, .ref (ga G 0)), (1, .int x1), (2, .int x2), (3, .int x3), (4, .int x4), (5, .int x5), (6, .int x6), (7, .int x7), (9, .int x9)]) hx hb dX9_lay_181 hl (k := 9) rfl (by rw [ex10_33]; rfl) (by decide) rfl (fun ls hl => ?_)
                    refine lv_goto (tgt := 156) hx hb dX9_lay_184 (by decide) ?_
                    exact ih156 x1 x2 x3 x4 x5 x6 x7 x9 x10_33 σ32 _ _ ls hH (lv_sub hl [1, 2, 3, 4, 5, 6, 7, 8, 9, 0] rfl) h
              have L125 : ∀ (x1 : Int32) (x2 : Int32) (x3 : Int32) (x4 : Int32) (x5 : Int32) (x6 : Int32) (x9 : Int32) (z0 : Int32) (σ : Sg) (H : Heap) (locs : List Loc) (ls : Array Slot), Hx G (aA G s.heap.size) s σ H locs → lv_has ls 11 [(0, .ref (ga G 0)), (1, .int x1), (2, .int x2), (3, .int x3), (4, .int x4), (5, .int x5), (6, .int x6), (9, .int x9)] → wpX9_lay_L125 Q (wpX9_lay_L5 Q n5) (wpX9_lay_L14 Q (wpX9_lay_L5 Q n5) n14) (wpX9_lay_L54 Q (wpX9_lay_L5 Q n5) (wpX9_lay_L14 Q (wpX9_lay_L5 Q n5) n14) n54) x1 x2 x3 x4 x5 x6 x9 z0 σ → W p l e ({ frames := 5, cells := 0, slots := 0, locals := 136 }) s m args below meth c H locs 0 0 (Zi G Q below args s) (F0 m 125 ls [.int z0]) := by
                intro x1 x2 x3 x4 x5 x6 x9 z0 σ H locs ls hH hl h
                unfold wpX9_lay_L125 at h
                refine lv_istore (lv' := [(7, .int z0), (0, .ref (ga G 0)), (1, .int x1), (2, .int x2), (3, .int x3), (4, .int x4), (5, .int x5), (6, .int x6), (9, .int x9)]) hx hb dX9_lay_125 hl (by decide) rfl (fun ls hl => ?_)
                refine lv_iload hx hb dX9_lay_127 (lv_at hl 0 rfl) ?_
                refine lv_if_ne (tgt := 135) hx hb dX9_lay_129 (by decide) (fun q24 => ?_) (fun q24 => ?_)
                · replace h := h.1 q24
                  refine lv_aload_n hx hb dX9_lay_135 rfl (lv_at hl 1 rfl) ?_
                  refine g_getr hx hb hB inB9 hown hK hH (c0 := 0) h0.1 rfl 81 (by decide) k225 rfl (c1 := 72) rfl dX9_lay_136 ?_
                  refine lv_iload_n hx hb dX9_lay_139 rfl (lv_at hl 4 rfl) ?_
                  refine lv_iload hx hb dX9_lay_140 (lv_at hl 6 rfl) ?_
                  obtain ⟨hi25, h⟩ := h
                  refine g_iast hx hb hK hH (c0 := 72) (i := x3) (mA72 h0) hi25 dX9_lay_142 (fun σ25 eσ25 H locs hH => ?_)
                  replace h := h σ25 eσ25
                  refine lv_aload_n hx hb dX9_lay_143 rfl (lv_at hl 1 rfl) ?_
                  refine g_getr hx hb hB inB9 hown hK hH (c0 := 0) h0.1 rfl 81 (by decide) k225 rfl (c1 := 72) rfl dX9_lay_144 ?_
                  refine lv_iload_n hx hb dX9_lay_147 rfl (lv_at hl 4 rfl) ?_
                  refine lv_iconst (v := 1) hx hb dX9_lay_148 (by decide) ?_
                  refine lv_iadd hx hb dX9_lay_149 ?_
                  refine lv_iload hx hb dX9_lay_150 (lv_at hl 8 rfl) ?_
                  obtain ⟨hi26, h⟩ := h
                  refine g_iast hx hb hK hH (c0 := 72) (i := x3 + 1) (mA72 h0) hi26 dX9_lay_152 (fun σ26 eσ26 H locs hH => ?_)
                  replace h := h σ26 eσ26
                  refine lv_iconst (v := 0) hx hb dX9_lay_153 (by decide) ?_
                  refine lv_istore (lv' := [(10, .int 0), (7, .int z0), (0, .ref (ga G 0)), (1, .int x1), (2, .int x2), (3, .int x3), (4, .int x4), (5, .int x5), (6, .int x6), (9, .int x9)]) hx hb dX9_lay_154 hl (by decide) rfl (fun ls hl => ?_)
                  obtain ⟨nn, h⟩ := h
                  exact L156 nn x1 x2 x3 x4 x5 x6 z0 x9 0 σ26 _ _ ls hH (lv_sub hl [2, 3, 4, 5, 6, 7, 8, 1, 9, 0] rfl) h
                · replace h := h.2 q24
                  refine lv_goto (tgt := 54) hx hb dX9_lay_132 (by decide) ?_
                  exact ih54 x1 x2 x3 x4 x5 x6 z0 σ _ _ ls hH (lv_sub hl [1, 2, 3, 4, 5, 6, 7, 0] rfl) h
              have L113 : ∀ (x1 : Int32) (x2 : Int32) (x3 : Int32) (x4 : Int32) (x5 : Int32) (x6 : Int32) (z0 : Int32) (σ : Sg) (H : Heap) (locs : List Loc) (ls : Array Slot), Hx G (aA G s.heap.size) s σ H locs → lv_has ls 11 [(0, .ref (ga G 0)), (1, .int x1), (2, .int x2), (3, .int x3), (4, .int x4), (5, .int x5), (6, .int x6)] → wpX9_lay_L113 Q (wpX9_lay_L5 Q n5) (wpX9_lay_L14 Q (wpX9_lay_L5 Q n5) n14) (wpX9_lay_L54 Q (wpX9_lay_L5 Q n5) (wpX9_lay_L14 Q (wpX9_lay_L5 Q n5) n14) n54) x1 x2 x3 x4 x5 x6 z0 σ → W p l e ({ frames := 5, cells := 0, slots := 0, locals := 136 }) s m args below meth c H locs 0 0 (Zi G Q below args s) (F0 m 113 ls [.int z0]) := by
                intro x1 x2 x3 x4 x5 x6 z0 σ H locs ls hH hl h
                unfold wpX9_lay_L113 at h
                refine lv_istore (lv' := [(9, .int z0), (0, .ref (ga G 0)), (1, .int x1), (2, .int x2), (3, .int x3), (4, .int x4), (5, .int x5), (6, .int x6)]) hx hb dX9_lay_113 hl (by decide) rfl (fun ls hl => ?_)
                refine lv_iload hx hb dX9_lay_115 (lv_at hl 0 rfl) ?_
                refine lv_if_le (tgt := 124) hx hb dX9_lay_117 (by decide) (fun q23 => ?_) (fun q23 => ?_)
                · replace h := h.1 q23
                  refine lv_iconst (v := 0) hx hb dX9_lay_124 (by decide) ?_
                  exact L125 x1 x2 x3 x4 x5 x6 z0 0 σ _ _ ls hH (lv_sub hl [1, 2, 3, 4, 5, 6, 7, 0] rfl) h
                · replace h := h.2 q23
                  refine lv_iconst (v := 1) hx hb dX9_lay_120 (by decide) ?_
                  refine lv_goto (tgt := 125) hx hb dX9_lay_121 (by decide) ?_
                  exact L125 x1 x2 x3 x4 x5 x6 z0 1 σ _ _ ls hH (lv_sub hl [1, 2, 3, 4, 5, 6, 7, 0] rfl) h
              have L90 : ∀ (x1 : Int32) (x2 : Int32) (x3 : Int32) (x4 : Int32) (x5 : Int32) (x6 : Int32) (x8 : Int32) (σ : Sg) (H : Heap) (locs : List Loc) (ls : Array Slot), Hx G (aA G s.heap.size) s σ H locs → lv_has ls 11 [(0, .ref (ga G 0)), (1, .int x1), (2, .int x2), (3, .int x3), (4, .int x4), (5, .int x5), (6, .int x6), (8, .int x8)] → wpX9_lay_L90 Q (wpX9_lay_L5 Q n5) (wpX9_lay_L14 Q (wpX9_lay_L5 Q n5) n14) (wpX9_lay_L54 Q (wpX9_lay_L5 Q n5) (wpX9_lay_L14 Q (wpX9_lay_L5 Q n5) n14) n54) x1 x2 x3 x4 x5 x6 x8 σ → W p l e ({ frames := 5, cells := 0, slots := 0, locals := 136 }) s m args below meth c H locs 0 0 (Zi G Q below args s) (F0 m 90 ls []) := by
                intro x1 x2 x3 x4 x5 x6 x8 σ H locs ls hH hl h
                unfold wpX9_lay_L90 at h
                refine lv_iload hx hb dX9_lay_90 (lv_at hl 7 rfl) ?_
                refine lv_iconst (v := 2) hx hb dX9_lay_92 (by decide) ?_
                refine lv_isub hx hb dX9_lay_93 ?_
                refine lv_iconst (v := 1) hx hb dX9_lay_94 (by decide) ?_
                refine lv_icmp_ge (tgt := 102) hx hb dX9_lay_95 (by decide) (fun q21 => ?_) (fun q21 => ?_)
                · replace h := h.1 q21
                  refine lv_aload_n hx hb dX9_lay_102 rfl (lv_at hl 0 rfl) ?_
                  refine lv_iload_n hx hb dX9_lay_103 rfl (lv_at hl 1 rfl) ?_
                  refine lv_iload hx hb dX9_lay_104 (lv_at hl 5 rfl) ?_
                  refine lv_iload hx hb dX9_lay_106 (lv_at hl 7 rfl) ?_
                  refine lv_iconst (v := 2) hx hb dX9_lay_108 (by decide) ?_
                  refine lv_isub hx hb dX9_lay_109 ?_
                  refine g_callVi (As := [.int x1, .int x5, .int (x8 - 2)]) (rest := []) ⟨hx, hb, hml, hown, hB⟩ hK hX aA_hA hH (c0 := 0) (tX9_make h0 h) (cwV 3 hB gVX9_359 rfl rfl rfl (by decide +kernel) ⟨Nat.le_of_ble_eq_true rfl, Nat.le_of_ble_eq_true rfl⟩) h0.1 rfl rfl hl.1 rfl (lv_room (Nat.le_of_ble_eq_true rfl)) ⟨Nat.zero_le _, Nat.zero_le _⟩ dX9_lay_110 (fun r22 σ22 H locs h hH => ?_)
                  exact L113 x1 x2 x3 x4 x5 x6 r22 σ22 _ _ ls hH (lv_sub hl [0, 1, 2, 3, 4, 5, 6] rfl) h
                · replace h := h.2 q21
                  refine lv_iconst (v := 0) hx hb dX9_lay_98 (by decide) ?_
                  refine lv_goto (tgt := 113) hx hb dX9_lay_99 (by decide) ?_
                  exact L113 x1 x2 x3 x4 x5 x6 0 σ _ _ ls hH (lv_sub hl [0, 1, 2, 3, 4, 5, 6] rfl) h
              intro x1 x2 x3 x4 x5 x6 x7 σ H locs ls hH hl h
              unfold wpX9_lay_L54 at h
              refine lv_iload hx hb dX9_lay_54 (lv_at hl 7 rfl) ?_
              refine lv_if_eq (tgt := 211) hx hb dX9_lay_56 (by decide) (fun q13 => ?_) (fun q13 => ?_)
              · replace h := h.1 q13
                obtain ⟨x5_14, ex5_14⟩ : ∃ y : Int32, y = x5 + 1 := ⟨_, rfl⟩
                replace h := h x5_14 ex5_14
                refine lv_iinc (v := x5_14) (lv' := [(5, .int x5_14), (0, .ref (ga G 0)), (1, .int x1), (2, .int x2), (3, .int x3), (4, .int x4), (6, .int x6), (7, .int x7)]) hx hb dX9_lay_211 hl (k := 5) rfl (by rw [ex5_14]; rfl) (by decide) rfl (fun ls hl => ?_)
                refine lv_goto (tgt := 14) hx hb dX9_lay_214 (by decide) ?_
                exact ih14 x1 x2 x3 x4 x5_14 σ _ _ ls hH (lv_sub hl [1, 2, 3, 4, 5, 0] rfl) h
              · replace h := h.2 q13
                refine lv_iload_n hx hb dX9_lay_59 rfl (lv_at hl 2 rfl) ?_
                refine lv_iload_n hx hb dX9_lay_60 rfl (lv_at hl 3 rfl) ?_
                refine lv_isub hx hb dX9_lay_61 ?_
                refine lv_topi (fun x8_15 ex8_15 => ?_)
                replace h := h x8_15 ex8_15
                refine lv_istore (lv' := [(8, .int x8_15), (0, .ref (ga G 0)), (1, .int x1), (2, .int x2), (3, .int x3), (4, .int x4), (5, .int x5), (6, .int x6), (7, .int x7)]) hx hb dX9_lay_62 hl (by decide) rfl (fun ls hl => ?_)
                refine lv_iload hx hb dX9_lay_64 (lv_at hl 5 rfl) ?_
                refine lv_if_ne (tgt := 90) hx hb dX9_lay_66 (by decide) (fun q16 => ?_) (fun q16 => ?_)
                · replace h := h.1 q16
                  exact L90 x1 x2 x3 x4 x5 x6 x8_15 σ _ _ ls hH (lv_sub hl [1, 2, 3, 4, 5, 6, 7, 0] rfl) h
                · replace h := h.2 q16
                  refine lv_aload_n hx hb dX9_lay_69 rfl (lv_at hl 1 rfl) ?_
                  refine g_getr hx hb hB inB9 hown hK hH (c0 := 0) h0.1 rfl 17 (by decide) k31 rfl (c1 := 8) rfl dX9_lay_70 ?_
                  refine lv_iload hx hb dX9_lay_73 (lv_at hl 7 rfl) ?_
                  obtain ⟨hi17, h⟩ := h
                  refine g_iald hx hb hK hH (c0 := 8) (mA8 h0) hi17 dX9_lay_75 ?_
                  refine lv_iload hx hb dX9_lay_76 (lv_at hl 0 rfl) ?_
                  refine lv_icmp_ge (tgt := 90) hx hb dX9_lay_78 (by decide) (fun q18 => ?_) (fun q18 => ?_)
                  · replace h := h.1 q18
                    exact L90 x1 x2 x3 x4 x5 x6 x8_15 σ _ _ ls hH (lv_sub hl [1, 2, 3, 4, 5, 6, 7, 0] rfl) h
                  · replace h := h.2 q18
                    refine lv_aload_n hx hb dX9_lay_81 rfl (lv_at hl 1 rfl) ?_
                    refine g_getr hx hb hB inB9 hown hK hH (c0 := 0) h0.1 rfl 17 (by decide) k31 rfl (c1 := 8) rfl dX9_lay_82 ?_
                    refine lv_iload hx hb dX9_lay_85 (lv_at hl 7 rfl) ?_
                    obtain ⟨hi19, h⟩ := h
                    refine g_iald hx hb hK hH (c0 := 8) (mA8 h0) hi19 dX9_lay_87 ?_
                    refine lv_topi (fun x8_20 ex8_20 => ?_)
                    replace h := h x8_20 ex8_20
                    refine lv_istore (lv' := [(8, .int x8_20), (0, .ref (ga G 0)), (1, .int x1), (2, .int x2), (3, .int x3), (4, .int x4), (5, .int x5), (6, .int x6), (7, .int x7)]) hx hb dX9_lay_88 hl (by decide) rfl (fun ls hl => ?_)
                    exact L90 x1 x2 x3 x4 x5 x6 x8_20 σ _ _ ls hH (lv_sub hl [1, 2, 3, 4, 5, 6, 7, 0] rfl) h
          have L52 : ∀ (x1 : Int32) (x2 : Int32) (x3 : Int32) (x4 : Int32) (x5 : Int32) (x6 : Int32) (z0 : Int32) (σ : Sg) (H : Heap) (locs : List Loc) (ls : Array Slot), Hx G (aA G s.heap.size) s σ H locs → lv_has ls 11 [(0, .ref (ga G 0)), (1, .int x1), (2, .int x2), (3, .int x3), (4, .int x4), (5, .int x5), (6, .int x6)] → wpX9_lay_L52 Q (wpX9_lay_L5 Q n5) (wpX9_lay_L14 Q (wpX9_lay_L5 Q n5) n14) x1 x2 x3 x4 x5 x6 z0 σ → W p l e ({ frames := 5, cells := 0, slots := 0, locals := 136 }) s m args below meth c H locs 0 0 (Zi G Q below args s) (F0 m 52 ls [.int z0]) := by
            intro x1 x2 x3 x4 x5 x6 z0 σ H locs ls hH hl h
            unfold wpX9_lay_L52 at h
            refine lv_istore (lv' := [(7, .int z0), (0, .ref (ga G 0)), (1, .int x1), (2, .int x2), (3, .int x3), (4, .int x4), (5, .int x5), (6, .int x6)]) hx hb dX9_lay_52 hl (by decide) rfl (fun ls hl => ?_)
            obtain ⟨nn, h⟩ := h
            exact L54 nn x1 x2 x3 x4 x5 x6 z0 σ _ _ ls hH (lv_sub hl [1, 2, 3, 4, 5, 6, 7, 0] rfl) h
          have L47 : ∀ (x1 : Int32) (x2 : Int32) (x3 : Int32) (x4 : Int32) (x5 : Int32) (x6 : Int32) (σ : Sg) (H : Heap) (locs : List Loc) (ls : Array Slot), Hx G (aA G s.heap.size) s σ H locs → lv_has ls 11 [(0, .ref (ga G 0)), (1, .int x1), (2, .int x2), (3, .int x3), (4, .int x4), (5, .int x5), (6, .int x6)] → wpX9_lay_L47 Q (wpX9_lay_L5 Q n5) (wpX9_lay_L14 Q (wpX9_lay_L5 Q n5) n14) x1 x2 x3 x4 x5 x6 σ → W p l e ({ frames := 5, cells := 0, slots := 0, locals := 136 }) s m args below meth c H locs 0 0 (Zi G Q below args s) (F0 m 47 ls []) := by
            intro x1 x2 x3 x4 x5 x6 σ H locs ls hH hl h
            unfold wpX9_lay_L47 at h
            refine lv_iconst (v := 1) hx hb dX9_lay_47 (by decide) ?_
            refine lv_goto (tgt := 52) hx hb dX9_lay_48 (by decide) ?_
            exact L52 x1 x2 x3 x4 x5 x6 1 σ _ _ ls hH (lv_sub hl [0, 1, 2, 3, 4, 5, 6] rfl) h
          intro x1 x2 x3 x4 x5 σ H locs ls hH hl h
          unfold wpX9_lay_L14 at h
          refine lv_iload hx hb dX9_lay_14 (lv_at hl 5 rfl) ?_
          refine lv_aload_n hx hb dX9_lay_16 rfl (lv_at hl 0 rfl) ?_
          refine g_geti hx hb hB inB9 hown hK hH (c0 := 0) h0.1 rfl 0 (by decide) k228 rfl rfl dX9_lay_17 ?_
          refine lv_icmp_ge (tgt := 217) hx hb dX9_lay_20 (by decide) (fun q5 => ?_) (fun q5 => ?_)
          · replace h := h.1 q5
            obtain ⟨x4_6, ex4_6⟩ : ∃ y : Int32, y = x4 + 1 := ⟨_, rfl⟩
            replace h := h x4_6 ex4_6
            refine lv_iinc (v := x4_6) (lv' := [(4, .int x4_6), (0, .ref (ga G 0)), (1, .int x1), (2, .int x2), (3, .int x3), (5, .int x5)]) hx hb dX9_lay_217 hl (k := 4) rfl (by rw [ex4_6]; rfl) (by decide) rfl (fun ls hl => ?_)
            refine lv_goto (tgt := 5) hx hb dX9_lay_220 (by decide) ?_
            exact ih5 x1 x2 x3 x4_6 σ _ _ ls hH (lv_sub hl [1, 2, 3, 4, 0] rfl) h
          · replace h := h.2 q5
            refine lv_iload_n hx hb dX9_lay_23 rfl (lv_at hl 1 rfl) ?_
            refine lv_iload hx hb dX9_lay_24 (lv_at hl 5 rfl) ?_
            refine g_callSi (As := [.int x1, .int x5]) (rest := []) ⟨hx, hb, hml, hown, hB⟩ hK hX aA_hA hH (tX9_at h) (va_cwS 2 hB gSX9_258 rfl rfl rfl (by decide +kernel) ⟨Nat.le_of_ble_eq_true rfl, Nat.le_of_ble_eq_true rfl⟩) rfl hl.1 rfl (lv_room (Nat.le_of_ble_eq_true rfl)) ⟨Nat.zero_le _, Nat.zero_le _⟩ dX9_lay_26 (fun r7 σ7 H locs h hH => ?_)
            refine lv_istore (lv' := [(6, .int r7), (0, .ref (ga G 0)), (1, .int x1), (2, .int x2), (3, .int x3), (4, .int x4), (5, .int x5)]) hx hb dX9_lay_29 hl (by decide) rfl (fun ls hl => ?_)
            refine lv_iload hx hb dX9_lay_31 (lv_at hl 5 rfl) ?_
            refine lv_iconst (v := 1) hx hb dX9_lay_33 (by decide) ?_
            refine lv_icmp_eq (tgt := 47) hx hb dX9_lay_34 (by decide) (fun q8 => ?_) (fun q8 => ?_)
            · replace h := h.1 q8
              exact L47 x1 x2 x3 x4 x5 r7 σ7 _ _ ls hH (lv_sub hl [1, 2, 3, 4, 5, 6, 0] rfl) h
            · replace h := h.2 q8
              refine lv_aload_n hx hb dX9_lay_37 rfl (lv_at hl 1 rfl) ?_
              refine g_getr hx hb hB inB9 hown hK hH (c0 := 0) h0.1 rfl 17 (by decide) k31 rfl (c1 := 8) rfl dX9_lay_38 ?_
              refine lv_iload hx hb dX9_lay_41 (lv_at hl 0 rfl) ?_
              obtain ⟨hi9, h⟩ := h
              refine g_iald hx hb hK hH (c0 := 8) (mA8 h0) hi9 dX9_lay_43 ?_
              refine lv_if_le (tgt := 51) hx hb dX9_lay_44 (by decide) (fun q10 => ?_) (fun q10 => ?_)
              · replace h := h.1 q10
                refine lv_iconst (v := 0) hx hb dX9_lay_51 (by decide) ?_
                exact L52 x1 x2 x3 x4 x5 r7 0 σ7 _ _ ls hH (lv_sub hl [1, 2, 3, 4, 5, 6, 0] rfl) h
              · replace h := h.2 q10
                exact L47 x1 x2 x3 x4 x5 r7 σ7 _ _ ls hH (lv_sub hl [1, 2, 3, 4, 5, 6, 0] rfl) h
      intro x1 x2 x3 x4 σ H locs ls hH hl h
      unfold wpX9_lay_L5 at h
      refine lv_iload hx hb dX9_lay_5 (lv_at hl 4 rfl) ?_
      refine lv_iconst (v := 2) hx hb dX9_lay_7 (by decide) ?_
      refine lv_icmp_ge (tgt := 223) hx hb dX9_lay_8 (by decide) (fun q1 => ?_) (fun q1 => ?_)
      · replace h := h.1 q1
        refine lv_iload_n hx hb dX9_lay_223 rfl (lv_at hl 3 rfl) ?_
        refine lv_if_ne (tgt := 229) hx hb dX9_lay_224 (by decide) (fun q2 => ?_) (fun q2 => ?_)
        · replace h := h.1 q2
          refine lv_iload_n hx hb dX9_lay_229 rfl (lv_at hl 3 rfl) ?_
          refine lv_istore (lv' := [(4, .int x3), (0, .ref (ga G 0)), (1, .int x1), (2, .int x2), (3, .int x3)]) hx hb dX9_lay_230 hl (by decide) rfl (fun ls hl => ?_)
          obtain ⟨nn, h⟩ := h
          exact L232 nn x2 x3 x3 σ _ _ ls hH (lv_sub hl [1, 3, 4, 0] rfl) h
        · replace h := h.2 q2
          refine lv_iconst (v := 0) hx hb dX9_lay_227 (by decide) ?_
          exact g_zret hx hb hr hK hlk vz0 h hH dX9_lay_228
      · replace h := h.2 q1
        refine lv_iconst (v := 0) hx hb dX9_lay_11 (by decide) ?_
        refine lv_istore (lv' := [(5, .int 0), (0, .ref (ga G 0)), (1, .int x1), (2, .int x2), (3, .int x3), (4, .int x4)]) hx hb dX9_lay_12 hl (by decide) rfl (fun ls hl => ?_)
        obtain ⟨nn, h⟩ := h
        exact L14 nn x1 x2 x3 x4 0 σ _ _ ls hH (lv_sub hl [1, 2, 3, 4, 5, 0] rfl) h
  unfold wpX9_lay at h
  refine lv_iconst (v := 0) hx hb dX9_lay_0 (by decide) ?_
  refine lv_istore_n (lv' := [(3, .int 0), (0, .ref (ga G 0)), (1, .int x1), (2, .int x2)]) hx hb dX9_lay_1 rfl hl (by decide) rfl (fun ls hl => ?_)
  refine lv_iconst (v := 0) hx hb dX9_lay_2 (by decide) ?_
  refine lv_istore (lv' := [(4, .int 0), (3, .int 0), (0, .ref (ga G 0)), (1, .int x1), (2, .int x2)]) hx hb dX9_lay_3 hl (by decide) rfl (fun ls hl => ?_)
  obtain ⟨nn, h⟩ := h
  exact L5 nn x1 x2 0 0 σ _ _ ls hH (lv_sub hl [2, 3, 4, 1, 0] rfl) h

def wpX9_lays_L270 (Q : Int32 → Sg → Prop) : Nat → Nat → Int32 → Int32 → Int32 → Int32 → Int32 → Int32 → Sg → Prop
  | 0, _, _, _, _, _, _, _, _ => False
  | n + 1, c3, x8, x9, x10, x14, x15, x16, σ => ((x9 ≤ x16 → (vz x14 ∧ Q x14 σ)) ∧ (¬ (x9 ≤ x16) → (vp_in x16 500 ∧ ∀ x15_31 : Int32, x15_31 = x15 + ((σ c3 x16.toNatClampNeg) &&& 127) → (vp_in ((((240 * x8) + x10) + x15_31) - 1) 46080 ∧ ∀ σ32 : Sg, σ32 = up2 σ 48 (((((240 * x8) + x10) + x15_31) - 1).toNatClampNeg) 1 → (vp_in (((240 * x8) + x10) + x15_31) 46080 ∧ ∀ σ33 : Sg, σ33 = up2 σ32 47 ((((240 * x8) + x10) + x15_31).toNatClampNeg) 1 → ∀ x16_34 : Int32, x16_34 = x16 + 1 → (wpX9_lays_L270 Q n) c3 x8 x9 x10 x14 x15_31 x16_34 σ33)))))
def wpX9_lays_L257 (Q : Int32 → Sg → Prop) (K144 : Nat → Int32 → Int32 → Int32 → Int32 → Int32 → Int32 → Int32 → Int32 → Sg → Prop) (c3 : Nat) (x6 : Int32) (x8 : Int32) (x9 : Int32) (x10 : Int32) (x11 : Int32) (x13 : Int32) (x14 : Int32) (x15 : Int32) (σ : Sg) : Prop := ∀ x15_39 : Int32, x15_39 = x15 + 1 → K144 c3 x6 x8 x9 x10 x11 x13 x14 x15_39 σ
def wpX9_lays_L256 (Q : Int32 → Sg → Prop) (K144 : Nat → Int32 → Int32 → Int32 → Int32 → Int32 → Int32 → Int32 → Int32 → Sg → Prop) (c3 : Nat) (x6 : Int32) (x8 : Int32) (x9 : Int32) (x10 : Int32) (x11 : Int32) (x13 : Int32) (x14 : Int32) (x15 : Int32) (z0 : Int32) (z1 : Int32) (y2 : Nat) (σ : Sg) : Prop := (vz z0 ∧ (vp_in z1 46080 ∧ ∀ σ41 : Sg, σ41 = up2 σ y2 z1.toNatClampNeg z0 → wpX9_lays_L257 Q K144 c3 x6 x8 x9 x10 x11 x13 x14 x15 σ41))
def wpX9_lays_L255 (Q : Int32 → Sg → Prop) (K144 : Nat → Int32 → Int32 → Int32 → Int32 → Int32 → Int32 → Int32 → Int32 → Sg → Prop) (c3 : Nat) (x6 : Int32) (x8 : Int32) (x9 : Int32) (x10 : Int32) (x11 : Int32) (x13 : Int32) (x14 : Int32) (x15 : Int32) (z0 : Int32) (y1 : Nat) (σ : Sg) : Prop := wpX9_lays_L256 Q K144 c3 x6 x8 x9 x10 x11 x13 x14 x15 0 z0 y1 σ
def wpX9_lays_L227 (Q : Int32 → Sg → Prop) (K144 : Nat → Int32 → Int32 → Int32 → Int32 → Int32 → Int32 → Int32 → Int32 → Sg → Prop) (c3 : Nat) (x6 : Int32) (x8 : Int32) (x9 : Int32) (x10 : Int32) (x11 : Int32) (x13 : Int32) (x14 : Int32) (x15 : Int32) (x16 : Int32) (z0 : Int32) (z1 : Int32) (y2 : Nat) (σ : Sg) : Prop := (vz z0 ∧ (vp_in z1 46080 ∧ ∀ σ36 : Sg, σ36 = up2 σ y2 z1.toNatClampNeg z0 → ((¬ (x15 + 1) = x13 → wpX9_lays_L255 Q K144 c3 x6 x8 x9 x10 x11 x13 x14 x15 x16 48 σ36) ∧ ((x15 + 1) = x13 → ((¬ (x6 &&& 8) = 0 → wpX9_lays_L255 Q K144 c3 x6 x8 x9 x10 x11 x13 x14 x15 x16 48 σ36) ∧ ((x6 &&& 8) = 0 → wpX9_lays_L256 Q K144 c3 x6 x8 x9 x10 x11 x13 x14 x15 1 x16 48 σ36))))))
def wpX9_lays_L226 (Q : Int32 → Sg → Prop) (K144 : Nat → Int32 → Int32 → Int32 → Int32 → Int32 → Int32 → Int32 → Int32 → Sg → Prop) (c3 : Nat) (x6 : Int32) (x8 : Int32) (x9 : Int32) (x10 : Int32) (x11 : Int32) (x13 : Int32) (x14 : Int32) (x15 : Int32) (x16 : Int32) (z0 : Int32) (y1 : Nat) (σ : Sg) : Prop := wpX9_lays_L227 Q K144 c3 x6 x8 x9 x10 x11 x13 x14 x15 x16 0 z0 y1 σ
def wpX9_lays_L144 (Q : Int32 → Sg → Prop) : Nat → Nat → Int32 → Int32 → Int32 → Int32 → Int32 → Int32 → Int32 → Int32 → Sg → Prop
  | 0, _, _, _, _, _, _, _, _, _, _ => False
  | n + 1, c3, x6, x8, x9, x10, x11, x13, x14, x15, σ => ((x13 ≤ x15 → ∃ nn, wpX9_lays_L270 Q nn c3 x8 x9 x10 x14 0 x11 σ) ∧ (¬ (x13 ≤ x15) → ∀ x16_21 : Int32, x16_21 = ((240 * x8) + x10) + x15 → (vp_in x16_21 46080 ∧ (((σ 46 x16_21.toNatClampNeg) = 0 → (vp_in x16_21 46080 ∧ ∀ σ24 : Sg, σ24 = up2 σ 46 x16_21.toNatClampNeg 1 → (vp_in (x9 + x15) 500 ∧ (vp_in x16_21 46080 ∧ ∀ σ26 : Sg, σ26 = up2 σ24 45 x16_21.toNatClampNeg (σ24 c3 (x9 + x15).toNatClampNeg) → ((¬ x15 = 0 → wpX9_lays_L226 Q (wpX9_lays_L144 Q n) c3 x6 x8 x9 x10 x11 x13 1 x15 x16_21 x16_21 47 σ26) ∧ (x15 = 0 → ((¬ (x6 &&& 16) = 0 → wpX9_lays_L226 Q (wpX9_lays_L144 Q n) c3 x6 x8 x9 x10 x11 x13 1 x15 x16_21 x16_21 47 σ26) ∧ ((x6 &&& 16) = 0 → wpX9_lays_L227 Q (wpX9_lays_L144 Q n) c3 x6 x8 x9 x10 x11 x13 1 x15 x16_21 1 x16_21 47 σ26)))))))) ∧ (¬ ((σ 46 x16_21.toNatClampNeg) = 0) → wpX9_lays_L257 Q (wpX9_lays_L144 Q n) c3 x6 x8 x9 x10 x11 x13 x14 x15 σ)))))
def wpX9_lays_L138 (Q : Int32 → Sg → Prop) (c3 : Nat) (x6 : Int32) (x8 : Int32) (x9 : Int32) (x10 : Int32) (x11 : Int32) (x13 : Int32) (σ : Sg) : Prop := ∃ nn, wpX9_lays_L144 Q nn c3 x6 x8 x9 x10 x11 x13 0 0 σ
def wpX9_lays_L126 (Q : Int32 → Sg → Prop) (c3 : Nat) (x6 : Int32) (x8 : Int32) (x9 : Int32) (x10 : Int32) (x11 : Int32) (x13 : Int32) (σ : Sg) : Prop := (vp_in x8 192 ∧ ∀ σ18 : Sg, σ18 = up2 σ 44 x8.toNatClampNeg (x10 + x13) → wpX9_lays_L138 Q c3 x6 x8 x9 x10 x11 x13 σ18)
def wpX9_lays_L92 (Q : Int32 → Sg → Prop) (K73 : Nat → Int32 → Int32 → Int32 → Int32 → Int32 → Int32 → Int32 → Int32 → Int32 → Sg → Prop) (c3 : Nat) (x4 : Int32) (x5 : Int32) (x6 : Int32) (x7 : Int32) (x8 : Int32) (x9 : Int32) (x10 : Int32) (x11 : Int32) (z0 : Int32) (σ : Sg) : Prop := ∀ x9_19 : Int32, x9_19 = x9 + 1 → K73 c3 x4 x5 x6 x7 x8 x9_19 x10 x11 z0 σ
def wpX9_lays_L73 (Q : Int32 → Sg → Prop) : Nat → Nat → Int32 → Int32 → Int32 → Int32 → Int32 → Int32 → Int32 → Int32 → Int32 → Sg → Prop
  | 0, _, _, _, _, _, _, _, _, _, _, _ => False
  | n + 1, c3, x4, x5, x6, x7, x8, x9, x10, x11, x12, σ => ((x12 = 0 → ∀ x13_12 : Int32, x13_12 = (x4 + x5) - x9 → ((x7 = 0 → wpX9_lays_L126 Q c3 x6 x8 x9 x10 x11 x13_12 σ) ∧ (¬ (x7 = 0) → (vp_in (x4 + 1) 500 ∧ (((σ c3 (x4 + 1).toNatClampNeg) ≤ 127 → wpX9_lays_L138 Q c3 x6 x8 x9 x10 x11 x13_12 σ) ∧ (¬ ((σ c3 (x4 + 1).toNatClampNeg) ≤ 127) → wpX9_lays_L126 Q c3 x6 x8 x9 x10 x11 x13_12 σ)))))) ∧ (¬ (x12 = 0) → (vp_in x9 500 ∧ (((σ c3 x9.toNatClampNeg) ≤ 127 → wpX9_lays_L92 Q (wpX9_lays_L73 Q n) c3 x4 x5 x6 x7 x8 x9 x10 x11 0 σ) ∧ (¬ ((σ c3 x9.toNatClampNeg) ≤ 127) → wpX9_lays_L92 Q (wpX9_lays_L73 Q n) c3 x4 x5 x6 x7 x8 x9 x10 x11 1 σ)))))
def wpX9_lays_L71 (Q : Int32 → Sg → Prop) (c3 : Nat) (x4 : Int32) (x5 : Int32) (x6 : Int32) (x7 : Int32) (x8 : Int32) (x9 : Int32) (x10 : Int32) (x11 : Int32) (z0 : Int32) (σ : Sg) : Prop := ∃ nn, wpX9_lays_L73 Q nn c3 x4 x5 x6 x7 x8 x9 x10 x11 z0 σ
def wpX9_lays_L55 (Q : Int32 → Sg → Prop) (c3 : Nat) (x4 : Int32) (x5 : Int32) (x6 : Int32) (x7 : Int32) (x8 : Int32) (x9 : Int32) (x10 : Int32) (σ : Sg) : Prop := (((x6 &&& 4) = 0 → wpX9_lays_L71 Q c3 x4 x5 x6 x7 x8 x9 x10 x9 0 σ) ∧ (¬ ((x6 &&& 4) = 0) → wpX9_lays_L71 Q c3 x4 x5 x6 x7 x8 x9 x10 x9 1 σ))
def wpX9_lays_L19 (Q : Int32 → Sg → Prop) (x1 : Int32) (x2 : Int32) (c3 : Nat) (x4 : Int32) (x5 : Int32) (x6 : Int32) (z0 : Int32) (σ : Sg) : Prop := ∀ x8_4 : Int32, x8_4 = (32 * x1) + (x2 &&& 31) → ∀ x9_5 : Int32, x9_5 = x4 + 2 → ((z0 = 0 → wpX9_lays_L55 Q c3 x4 x5 x6 z0 x8_4 x9_5 0 σ) ∧ (¬ (z0 = 0) → (vp_in x9_5 500 ∧ ∀ x10_8 : Int32, x10_8 = σ c3 x9_5.toNatClampNeg → ∀ x9_9 : Int32, x9_9 = x9_5 + 1 → wpX9_lays_L55 Q c3 x4 x5 x6 z0 x8_4 x9_9 x10_8 σ)))
def wpX9_lays (x1 : Int32) (x2 : Int32) (c3 : Nat) (x4 : Int32) (x5 : Int32) (σ : Sg) (Q : Int32 → Sg → Prop) : Prop := (vp_in x4 500 ∧ ∀ x6_2 : Int32, x6_2 = σ c3 x4.toNatClampNeg → (((x6_2 &&& 64) = 0 → wpX9_lays_L19 Q x1 x2 c3 x4 x5 x6_2 0 σ) ∧ (¬ ((x6_2 &&& 64) = 0) → wpX9_lays_L19 Q x1 x2 c3 x4 x5 x6_2 1 σ)))
set_option maxHeartbeats 8000000 in
set_option maxRecDepth 100000 in
theorem tX9_lays {l : Launch} {G : GG} {x1 : Int32} {x2 : Int32} {c3 : Nat} {x4 : Int32} {x5 : Int32} {σ : Sg} {Q : Int32 → Sg → Prop} (h0 : isModel G) (hc3 : isI G 500 c3) (h : wpX9_lays x1 x2 c3 x4 x5 σ Q) : Ki l G yX9_lays (wB yX9_lays prog_11_method_37_code 17 (Option.some FieldType.boolean)) ({ frames := 0, cells := 0, slots := 0, locals := 0 }) [.ref (ga G 0), .int x1, .int x2, .ref (ga G c3), .int x4, .int x5] σ Q := by
  refine K_of (cc := cX9_lays) (maxL := 17) (ret := (some .boolean)) (by decide) rfl (Nat.le_of_ble_eq_true rfl) ?_
  intro p e s m args below meth c ls B hH hl
  obtain ⟨hx, hb, hr, hts, hown, hlk, hml, hK, hX⟩ := B
  replace hl : lv_has ls 17 [(0, .ref (ga G 0)), (1, .int x1), (2, .int x2), (3, .ref (ga G c3)), (4, .int x4), (5, .int x5)] := hl
  have hB : ∀ w ∈ BIG, w.before args s = true := fun w h9 => hts w (List.mem_cons_of_mem _ h9)
  clear hts
  have k140 := hB _ bw4_163
  have k144 := hB _ bw4_164
  have k147 := hB _ bw4_165
  have k150 := hB _ bw4_166
  have k153 := hB _ bw4_167
  have L270 : ∀ (n270 : Nat) (c3 : Nat) (hc3 : isI G 500 c3) (x8 : Int32) (x9 : Int32) (x10 : Int32) (x14 : Int32) (x15 : Int32) (x16 : Int32) (σ : Sg) (H : Heap) (locs : List Loc) (ls : Array Slot), Hx G (aA G s.heap.size) s σ H locs → lv_has ls 17 [(0, .ref (ga G 0)), (3, .ref (ga G c3)), (8, .int x8), (9, .int x9), (10, .int x10), (14, .int x14), (15, .int x15), (16, .int x16)] → wpX9_lays_L270 Q n270 c3 x8 x9 x10 x14 x15 x16 σ → W p l e ({ frames := 0, cells := 0, slots := 0, locals := 0 }) s m args below meth c H locs 0 0 (Zi G Q below args s) (F0 m 270 ls []) := by
    intro n270
    induction n270 with
    | zero =>
      intro c3 hc3 x8 x9 x10 x14 x15 x16 σ H locs ls hH hl h
      exact False.elim h
    | succ n270 ih270 =>
      intro c3 hc3 x8 x9 x10 x14 x15 x16 σ H locs ls hH hl h
      unfold wpX9_lays_L270 at h
      refine lv_iload hx hb dX9_lays_270 (lv_at hl 7 rfl) ?_
      refine lv_iload hx hb dX9_lays_272 (lv_at hl 3 rfl) ?_
      refine lv_icmp_ge (tgt := 333) hx hb dX9_lays_274 (by decide) (fun q29 => ?_) (fun q29 => ?_)
      · replace h := h.1 q29
        refine lv_iload hx hb dX9_lays_333 (lv_at hl 5 rfl) ?_
        exact g_zret hx hb hr hK hlk h.1 h.2 hH dX9_lays_335
      · replace h := h.2 q29
        refine lv_iload hx hb dX9_lays_277 (lv_at hl 6 rfl) ?_
        refine lv_aload_n hx hb dX9_lays_279 rfl (lv_at hl 1 rfl) ?_
        refine lv_iload hx hb dX9_lays_280 (lv_at hl 7 rfl) ?_
        obtain ⟨hi30, h⟩ := h
        refine g_iald hx hb hK hH (c0 := c3) hc3 hi30 dX9_lays_282 ?_
        refine lv_bipush (v := 127) hx hb dX9_lays_283 (by decide) ?_
        refine lv_iand hx hb dX9_lays_285 ?_
        refine lv_iadd hx hb dX9_lays_286 ?_
        refine lv_topi (fun x15_31 ex15_31 => ?_)
        replace h := h x15_31 ex15_31
        refine lv_istore (lv' := [(15, .int x15_31), (0, .ref (ga G 0)), (3, .ref (ga G c3)), (8, .int x8), (9, .int x9), (10, .int x10), (14, .int x14), (16, .int x16)]) hx hb dX9_lays_287 hl (by decide) rfl (fun ls hl => ?_)
        refine lv_aload_n hx hb dX9_lays_289 rfl (lv_at hl 1 rfl) ?_
        refine g_getr hx hb hB inB9 hown hK hH (c0 := 0) h0.1 rfl 57 (by decide) k153 rfl (c1 := 48) rfl dX9_lays_290 ?_
        refine lv_sipush (v := 240) hx hb dX9_lays_293 (by decide) ?_
        refine lv_iload hx hb dX9_lays_296 (lv_at hl 3 rfl) ?_
        refine lv_imul hx hb dX9_lays_298 ?_
        refine lv_iload hx hb dX9_lays_299 (lv_at hl 5 rfl) ?_
        refine lv_iadd hx hb dX9_lays_301 ?_
        refine lv_iload hx hb dX9_lays_302 (lv_at hl 0 rfl) ?_
        refine lv_iadd hx hb dX9_lays_304 ?_
        refine lv_iconst (v := 1) hx hb dX9_lays_305 (by decide) ?_
        refine lv_isub hx hb dX9_lays_306 ?_
        refine lv_iconst (v := 1) hx hb dX9_lays_307 (by decide) ?_
        obtain ⟨hi32, h⟩ := h
        refine g_zast hx hb hK hH (c0 := 48) (i := (((240 * x8) + x10) + x15_31) - 1) (mA48 h0) vz1 hi32 dX9_lays_308 (fun σ32 eσ32 H locs hH => ?_)
        replace h := h σ32 eσ32
        refine lv_aload_n hx hb dX9_lays_309 rfl (lv_at hl 1 rfl) ?_
        refine g_getr hx hb hB inB9 hown hK hH (c0 := 0) h0.1 rfl 56 (by decide) k150 rfl (c1 := 47) rfl dX9_lays_310 ?_
        refine lv_sipush (v := 240) hx hb dX9_lays_313 (by decide) ?_
        refine lv_iload hx hb dX9_lays_316 (lv_at hl 3 rfl) ?_
        refine lv_imul hx hb dX9_lays_318 ?_
        refine lv_iload hx hb dX9_lays_319 (lv_at hl 5 rfl) ?_
        refine lv_iadd hx hb dX9_lays_321 ?_
        refine lv_iload hx hb dX9_lays_322 (lv_at hl 0 rfl) ?_
        refine lv_iadd hx hb dX9_lays_324 ?_
        refine lv_iconst (v := 1) hx hb dX9_lays_325 (by decide) ?_
        obtain ⟨hi33, h⟩ := h
        refine g_zast hx hb hK hH (c0 := 47) (i := ((240 * x8) + x10) + x15_31) (mA47 h0) vz1 hi33 dX9_lays_326 (fun σ33 eσ33 H locs hH => ?_)
        replace h := h σ33 eσ33
        obtain ⟨x16_34, ex16_34⟩ : ∃ y : Int32, y = x16 + 1 := ⟨_, rfl⟩
        replace h := h x16_34 ex16_34
        refine lv_iinc (v := x16_34) (lv' := [(16, .int x16_34), (15, .int x15_31), (0, .ref (ga G 0)), (3, .ref (ga G c3)), (8, .int x8), (9, .int x9), (10, .int x10), (14, .int x14)]) hx hb dX9_lays_327 hl (k := 7) rfl (by rw [ex16_34]; rfl) (by decide) rfl (fun ls hl => ?_)
        refine lv_goto (tgt := 270) hx hb dX9_lays_330 (by decide) ?_
        exact ih270 c3 hc3 x8 x9 x10 x14 x15_31 x16_34 σ33 _ _ ls hH (lv_sub hl [2, 3, 4, 5, 6, 7, 1, 0] rfl) h
  have L144 : ∀ (n144 : Nat) (c3 : Nat) (hc3 : isI G 500 c3) (x6 : Int32) (x8 : Int32) (x9 : Int32) (x10 : Int32) (x11 : Int32) (x13 : Int32) (x14 : Int32) (x15 : Int32) (σ : Sg) (H : Heap) (locs : List Loc) (ls : Array Slot), Hx G (aA G s.heap.size) s σ H locs → lv_has ls 17 [(0, .ref (ga G 0)), (3, .ref (ga G c3)), (6, .int x6), (8, .int x8), (9, .int x9), (10, .int x10), (11, .int x11), (13, .int x13), (14, .int x14), (15, .int x15)] → wpX9_lays_L144 Q n144 c3 x6 x8 x9 x10 x11 x13 x14 x15 σ → W p l e ({ frames := 0, cells := 0, slots := 0, locals := 0 }) s m args below meth c H locs 0 0 (Zi G Q below args s) (F0 m 144 ls []) := by
    intro n144
    induction n144 with
    | zero =>
      intro c3 hc3 x6 x8 x9 x10 x11 x13 x14 x15 σ H locs ls hH hl h
      exact False.elim h
    | succ n144 ih144 =>
      have L257 : ∀ (c3 : Nat) (hc3 : isI G 500 c3) (x6 : Int32) (x8 : Int32) (x9 : Int32) (x10 : Int32) (x11 : Int32) (x13 : Int32) (x14 : Int32) (x15 : Int32) (σ : Sg) (H : Heap) (locs : List Loc) (ls : Array Slot), Hx G (aA G s.heap.size) s σ H locs → lv_has ls 17 [(0, .ref (ga G 0)), (3, .ref (ga G c3)), (6, .int x6), (8, .int x8), (9, .int x9), (10, .int x10), (11, .int x11), (13, .int x13), (14, .int x14), (15, .int x15)] → wpX9_lays_L257 Q (wpX9_lays_L144 Q n144) c3 x6 x8 x9 x10 x11 x13 x14 x15 σ → W p l e ({ frames := 0, cells := 0, slots := 0, locals := 0 }) s m args below meth c H locs 0 0 (Zi G Q below args s) (F0 m 257 ls []) := by
        intro c3 hc3 x6 x8 x9 x10 x11 x13 x14 x15 σ H locs ls hH hl h
        unfold wpX9_lays_L257 at h
        obtain ⟨x15_39, ex15_39⟩ : ∃ y : Int32, y = x15 + 1 := ⟨_, rfl⟩
        replace h := h x15_39 ex15_39
        refine lv_iinc (v := x15_39) (lv' := [(15, .int x15_39), (0, .ref (ga G 0)), (3, .ref (ga G c3)), (6, .int x6), (8, .int x8), (9, .int x9), (10, .int x10), (11, .int x11), (13, .int x13), (14, .int x14)]) hx hb dX9_lays_257 hl (k := 9) rfl (by rw [ex15_39]; rfl) (by decide) rfl (fun ls hl => ?_)
        refine lv_goto (tgt := 144) hx hb dX9_lays_260 (by decide) ?_
        exact ih144 c3 hc3 x6 x8 x9 x10 x11 x13 x14 x15_39 σ _ _ ls hH (lv_sub hl [1, 2, 3, 4, 5, 6, 7, 8, 9, 0] rfl) h
      have L256 : ∀ (c3 : Nat) (hc3 : isI G 500 c3) (x6 : Int32) (x8 : Int32) (x9 : Int32) (x10 : Int32) (x11 : Int32) (x13 : Int32) (x14 : Int32) (x15 : Int32) (z0 : Int32) (z1 : Int32) (y2 : Nat) (hy2 : isZ G 46080 y2) (σ : Sg) (H : Heap) (locs : List Loc) (ls : Array Slot), Hx G (aA G s.heap.size) s σ H locs → lv_has ls 17 [(0, .ref (ga G 0)), (3, .ref (ga G c3)), (6, .int x6), (8, .int x8), (9, .int x9), (10, .int x10), (11, .int x11), (13, .int x13), (14, .int x14), (15, .int x15)] → wpX9_lays_L256 Q (wpX9_lays_L144 Q n144) c3 x6 x8 x9 x10 x11 x13 x14 x15 z0 z1 y2 σ → W p l e ({ frames := 0, cells := 0, slots := 0, locals := 0 }) s m args below meth c H locs 0 0 (Zi G Q below args s) (F0 m 256 ls [.int z0, .int z1, .ref (ga G y2)]) := by
        intro c3 hc3 x6 x8 x9 x10 x11 x13 x14 x15 z0 z1 y2 hy2 σ H locs ls hH hl h
        unfold wpX9_lays_L256 at h
        obtain ⟨hz40, h⟩ := h
        obtain ⟨hi41, h⟩ := h
        refine g_zast hx hb hK hH (c0 := y2) (i := z1) hy2 hz40 hi41 dX9_lays_256 (fun σ41 eσ41 H locs hH => ?_)
        replace h := h σ41 eσ41
        exact L257 c3 hc3 x6 x8 x9 x10 x11 x13 x14 x15 σ41 _ _ ls hH (lv_sub hl [0, 1, 2, 3, 4, 5, 6, 7, 8, 9] rfl) h
      have L255 : ∀ (c3 : Nat) (hc3 : isI G 500 c3) (x6 : Int32) (x8 : Int32) (x9 : Int32) (x10 : Int32) (x11 : Int32) (x13 : Int32) (x14 : Int32) (x15 : Int32) (z0 : Int32) (y1 : Nat) (hy1 : isZ G 46080 y1) (σ : Sg) (H : Heap) (locs : List Loc) (ls : Array Slot), Hx G (aA G s.heap.size) s σ H locs → lv_has ls 17 [(0, .ref (ga G 0)), (3, .ref (ga G c3)), (6, .int x6), (8, .int x8), (9, .int x9), (10, .int x10), (11, .int x11), (13, .int x13), (14, .int x14), (15, .int x15)] → wpX9_lays_L255 Q (wpX9_lays_L144 Q n144) c3 x6 x8 x9 x10 x11 x13 x14 x15 z0 y1 σ → W p l e ({ frames := 0, cells := 0, slots := 0, locals := 0 }) s m args below meth c H locs 0 0 (Zi G Q below args s) (F0 m 255 ls [.int z0, .ref (ga G y1)]) := by
        intro c3 hc3 x6 x8 x9 x10 x11 x13 x14 x15 z0 y1 hy1 σ H locs ls hH hl h
        unfold wpX9_lays_L255 at h
        refine lv_iconst (v := 0) hx hb dX9_lays_255 (by decide) ?_
        exact L256 c3 hc3 x6 x8 x9 x10 x11 x13 x14 x15 0 z0 y1 hy1 σ _ _ ls hH (lv_sub hl [0, 1, 2, 3, 4, 5, 6, 7, 8, 9] rfl) h
      have L227 : ∀ (c3 : Nat) (hc3 : isI G 500 c3) (x6 : Int32) (x8 : Int32) (x9 : Int32) (x10 : Int32) (x11 : Int32) (x13 : Int32) (x14 : Int32) (x15 : Int32) (x16 : Int32) (z0 : Int32) (z1 : Int32) (y2 : Nat) (hy2 : isZ G 46080 y2) (σ : Sg) (H : Heap) (locs : List Loc) (ls : Array Slot), Hx G (aA G s.heap.size) s σ H locs → lv_has ls 17 [(0, .ref (ga G 0)), (3, .ref (ga G c3)), (6, .int x6), (8, .int x8), (9, .int x9), (10, .int x10), (11, .int x11), (13, .int x13), (14, .int x14), (15, .int x15), (16, .int x16)] → wpX9_lays_L227 Q (wpX9_lays_L144 Q n144) c3 x6 x8 x9 x10 x11 x13 x14 x15 x16 z0 z1 y2 σ → W p l e ({ frames := 0, cells := 0, slots := 0, locals := 0 }) s m args below meth c H locs 0 0 (Zi G Q below args s) (F0 m 227 ls [.int z0, .int z1, .ref (ga G y2)]) := by
        intro c3 hc3 x6 x8 x9 x10 x11 x13 x14 x15 x16 z0 z1 y2 hy2 σ H locs ls hH hl h
        unfold wpX9_lays_L227 at h
        obtain ⟨hz35, h⟩ := h
        obtain ⟨hi36, h⟩ := h
        refine g_zast hx hb hK hH (c0 := y2) (i := z1) hy2 hz35 hi36 dX9_lays_227 (fun σ36 eσ36 H locs hH => ?_)
        replace h := h σ36 eσ36
        refine lv_aload_n hx hb dX9_lays_228 rfl (lv_at hl 0 rfl) ?_
        refine g_getr hx hb hB inB9 hown hK hH (c0 := 0) h0.1 rfl 57 (by decide) k153 rfl (c1 := 48) rfl dX9_lays_229 ?_
        refine lv_iload hx hb dX9_lays_232 (lv_at hl 10 rfl) ?_
        refine lv_iload hx hb dX9_lays_234 (lv_at hl 9 rfl) ?_
        refine lv_iconst (v := 1) hx hb dX9_lays_236 (by decide) ?_
        refine lv_iadd hx hb dX9_lays_237 ?_
        refine lv_iload hx hb dX9_lays_238 (lv_at hl 7 rfl) ?_
        refine lv_icmp_ne (tgt := 255) hx hb dX9_lays_240 (by decide) (fun q37 => ?_) (fun q37 => ?_)
        · replace h := h.1 q37
          exact L255 c3 hc3 x6 x8 x9 x10 x11 x13 x14 x15 x16 48 ((mA48 h0)) σ36 _ _ ls hH (lv_sub hl [0, 1, 2, 3, 4, 5, 6, 7, 8, 9] rfl) h
        · replace h := h.2 q37
          refine lv_iload hx hb dX9_lays_243 (lv_at hl 2 rfl) ?_
          refine lv_bipush (v := 8) hx hb dX9_lays_245 (by decide) ?_
          refine lv_iand hx hb dX9_lays_247 ?_
          refine lv_if_ne (tgt := 255) hx hb dX9_lays_248 (by decide) (fun q38 => ?_) (fun q38 => ?_)
          · replace h := h.1 q38
            exact L255 c3 hc3 x6 x8 x9 x10 x11 x13 x14 x15 x16 48 ((mA48 h0)) σ36 _ _ ls hH (lv_sub hl [0, 1, 2, 3, 4, 5, 6, 7, 8, 9] rfl) h
          · replace h := h.2 q38
            refine lv_iconst (v := 1) hx hb dX9_lays_251 (by decide) ?_
            refine lv_goto (tgt := 256) hx hb dX9_lays_252 (by decide) ?_
            exact L256 c3 hc3 x6 x8 x9 x10 x11 x13 x14 x15 1 x16 48 ((mA48 h0)) σ36 _ _ ls hH (lv_sub hl [0, 1, 2, 3, 4, 5, 6, 7, 8, 9] rfl) h
      have L226 : ∀ (c3 : Nat) (hc3 : isI G 500 c3) (x6 : Int32) (x8 : Int32) (x9 : Int32) (x10 : Int32) (x11 : Int32) (x13 : Int32) (x14 : Int32) (x15 : Int32) (x16 : Int32) (z0 : Int32) (y1 : Nat) (hy1 : isZ G 46080 y1) (σ : Sg) (H : Heap) (locs : List Loc) (ls : Array Slot), Hx G (aA G s.heap.size) s σ H locs → lv_has ls 17 [(0, .ref (ga G 0)), (3, .ref (ga G c3)), (6, .int x6), (8, .int x8), (9, .int x9), (10, .int x10), (11, .int x11), (13, .int x13), (14, .int x14), (15, .int x15), (16, .int x16)] → wpX9_lays_L226 Q (wpX9_lays_L144 Q n144) c3 x6 x8 x9 x10 x11 x13 x14 x15 x16 z0 y1 σ → W p l e ({ frames := 0, cells := 0, slots := 0, locals := 0 }) s m args below meth c H locs 0 0 (Zi G Q below args s) (F0 m 226 ls [.int z0, .ref (ga G y1)]) := by
        intro c3 hc3 x6 x8 x9 x10 x11 x13 x14 x15 x16 z0 y1 hy1 σ H locs ls hH hl h
        unfold wpX9_lays_L226 at h
        refine lv_iconst (v := 0) hx hb dX9_lays_226 (by decide) ?_
        exact L227 c3 hc3 x6 x8 x9 x10 x11 x13 x14 x15 x16 0 z0 y1 hy1 σ _ _ ls hH (lv_sub hl [0, 1, 2, 3, 4, 5, 6, 7, 8, 9, 10] rfl) h
      intro c3 hc3 x6 x8 x9 x10 x11 x13 x14 x15 σ H locs ls hH hl h
      unfold wpX9_lays_L144 at h
      refine lv_iload hx hb dX9_lays_144 (lv_at hl 9 rfl) ?_
      refine lv_iload hx hb dX9_lays_146 (lv_at hl 7 rfl) ?_
      refine lv_icmp_ge (tgt := 263) hx hb dX9_lays_148 (by decide) (fun q20 => ?_) (fun q20 => ?_)
      · replace h := h.1 q20
        refine lv_iconst (v := 0) hx hb dX9_lays_263 (by decide) ?_
        refine lv_istore (lv' := [(15, .int 0), (0, .ref (ga G 0)), (3, .ref (ga G c3)), (6, .int x6), (8, .int x8), (9, .int x9), (10, .int x10), (11, .int x11), (13, .int x13), (14, .int x14)]) hx hb dX9_lays_264 hl (by decide) rfl (fun ls hl => ?_)
        refine lv_iload hx hb dX9_lays_266 (lv_at hl 7 rfl) ?_
        refine lv_istore (lv' := [(16, .int x11), (15, .int 0), (0, .ref (ga G 0)), (3, .ref (ga G c3)), (6, .int x6), (8, .int x8), (9, .int x9), (10, .int x10), (11, .int x11), (13, .int x13), (14, .int x14)]) hx hb dX9_lays_268 hl (by decide) rfl (fun ls hl => ?_)
        obtain ⟨nn, h⟩ := h
        exact L270 nn c3 hc3 x8 x9 x10 x14 0 x11 σ _ _ ls hH (lv_sub hl [2, 3, 5, 6, 7, 10, 1, 0] rfl) h
      · replace h := h.2 q20
        refine lv_sipush (v := 240) hx hb dX9_lays_151 (by decide) ?_
        refine lv_iload hx hb dX9_lays_154 (lv_at hl 3 rfl) ?_
        refine lv_imul hx hb dX9_lays_156 ?_
        refine lv_iload hx hb dX9_lays_157 (lv_at hl 5 rfl) ?_
        refine lv_iadd hx hb dX9_lays_159 ?_
        refine lv_iload hx hb dX9_lays_160 (lv_at hl 9 rfl) ?_
        refine lv_iadd hx hb dX9_lays_162 ?_
        refine lv_topi (fun x16_21 ex16_21 => ?_)
        replace h := h x16_21 ex16_21
        refine lv_istore (lv' := [(16, .int x16_21), (0, .ref (ga G 0)), (3, .ref (ga G c3)), (6, .int x6), (8, .int x8), (9, .int x9), (10, .int x10), (11, .int x11), (13, .int x13), (14, .int x14), (15, .int x15)]) hx hb dX9_lays_163 hl (by decide) rfl (fun ls hl => ?_)
        refine lv_aload_n hx hb dX9_lays_165 rfl (lv_at hl 1 rfl) ?_
        refine g_getr hx hb hB inB9 hown hK hH (c0 := 0) h0.1 rfl 55 (by decide) k147 rfl (c1 := 46) rfl dX9_lays_166 ?_
        refine lv_iload hx hb dX9_lays_169 (lv_at hl 0 rfl) ?_
        obtain ⟨hi22, h⟩ := h
        refine g_zald hx hb hK hH (c0 := 46) (mA46 h0) hi22 dX9_lays_171 ?_
        refine lv_if_eq (tgt := 178) hx hb dX9_lays_172 (by decide) (fun q23 => ?_) (fun q23 => ?_)
        · replace h := h.1 q23
          refine lv_iconst (v := 1) hx hb dX9_lays_178 (by decide) ?_
          refine lv_istore (lv' := [(14, .int 1), (16, .int x16_21), (0, .ref (ga G 0)), (3, .ref (ga G c3)), (6, .int x6), (8, .int x8), (9, .int x9), (10, .int x10), (11, .int x11), (13, .int x13), (15, .int x15)]) hx hb dX9_lays_179 hl (by decide) rfl (fun ls hl => ?_)
          refine lv_aload_n hx hb dX9_lays_181 rfl (lv_at hl 2 rfl) ?_
          refine g_getr hx hb hB inB9 hown hK hH (c0 := 0) h0.1 rfl 55 (by decide) k147 rfl (c1 := 46) rfl dX9_lays_182 ?_
          refine lv_iload hx hb dX9_lays_185 (lv_at hl 1 rfl) ?_
          refine lv_iconst (v := 1) hx hb dX9_lays_187 (by decide) ?_
          obtain ⟨hi24, h⟩ := h
          refine g_zast hx hb hK hH (c0 := 46) (i := x16_21) (mA46 h0) vz1 hi24 dX9_lays_188 (fun σ24 eσ24 H locs hH => ?_)
          replace h := h σ24 eσ24
          refine lv_aload_n hx hb dX9_lays_189 rfl (lv_at hl 2 rfl) ?_
          refine g_getr hx hb hB inB9 hown hK hH (c0 := 0) h0.1 rfl 54 (by decide) k144 rfl (c1 := 45) rfl dX9_lays_190 ?_
          refine lv_iload hx hb dX9_lays_193 (lv_at hl 1 rfl) ?_
          refine lv_aload_n hx hb dX9_lays_195 rfl (lv_at hl 3 rfl) ?_
          refine lv_iload hx hb dX9_lays_196 (lv_at hl 6 rfl) ?_
          refine lv_iload hx hb dX9_lays_198 (lv_at hl 10 rfl) ?_
          refine lv_iadd hx hb dX9_lays_200 ?_
          obtain ⟨hi25, h⟩ := h
          refine g_iald hx hb hK hH (c0 := c3) hc3 hi25 dX9_lays_201 ?_
          obtain ⟨hi26, h⟩ := h
          refine g_iast hx hb hK hH (c0 := 45) (i := x16_21) (mA45 h0) hi26 dX9_lays_202 (fun σ26 eσ26 H locs hH => ?_)
          replace h := h σ26 eσ26
          refine lv_aload_n hx hb dX9_lays_203 rfl (lv_at hl 2 rfl) ?_
          refine g_getr hx hb hB inB9 hown hK hH (c0 := 0) h0.1 rfl 56 (by decide) k150 rfl (c1 := 47) rfl dX9_lays_204 ?_
          refine lv_iload hx hb dX9_lays_207 (lv_at hl 1 rfl) ?_
          refine lv_iload hx hb dX9_lays_209 (lv_at hl 10 rfl) ?_
          refine lv_if_ne (tgt := 226) hx hb dX9_lays_211 (by decide) (fun q27 => ?_) (fun q27 => ?_)
          · replace h := h.1 q27
            exact L226 c3 hc3 x6 x8 x9 x10 x11 x13 1 x15 x16_21 x16_21 47 ((mA47 h0)) σ26 _ _ ls hH (lv_sub hl [2, 3, 4, 5, 6, 7, 8, 9, 0, 10, 1] rfl) h
          · replace h := h.2 q27
            refine lv_iload hx hb dX9_lays_214 (lv_at hl 4 rfl) ?_
            refine lv_bipush (v := 16) hx hb dX9_lays_216 (by decide) ?_
            refine lv_iand hx hb dX9_lays_218 ?_
            refine lv_if_ne (tgt := 226) hx hb dX9_lays_219 (by decide) (fun q28 => ?_) (fun q28 => ?_)
            · replace h := h.1 q28
              exact L226 c3 hc3 x6 x8 x9 x10 x11 x13 1 x15 x16_21 x16_21 47 ((mA47 h0)) σ26 _ _ ls hH (lv_sub hl [2, 3, 4, 5, 6, 7, 8, 9, 0, 10, 1] rfl) h
            · replace h := h.2 q28
              refine lv_iconst (v := 1) hx hb dX9_lays_222 (by decide) ?_
              refine lv_goto (tgt := 227) hx hb dX9_lays_223 (by decide) ?_
              exact L227 c3 hc3 x6 x8 x9 x10 x11 x13 1 x15 x16_21 1 x16_21 47 ((mA47 h0)) σ26 _ _ ls hH (lv_sub hl [2, 3, 4, 5, 6, 7, 8, 9, 0, 10, 1] rfl) h
        · replace h := h.2 q23
          refine lv_goto (tgt := 257) hx hb dX9_lays_175 (by decide) ?_
          exact L257 c3 hc3 x6 x8 x9 x10 x11 x13 x14 x15 σ _ _ ls hH (lv_sub hl [1, 2, 3, 4, 5, 6, 7, 8, 9, 10] rfl) h
  have L138 : ∀ (c3 : Nat) (hc3 : isI G 500 c3) (x6 : Int32) (x8 : Int32) (x9 : Int32) (x10 : Int32) (x11 : Int32) (x13 : Int32) (σ : Sg) (H : Heap) (locs : List Loc) (ls : Array Slot), Hx G (aA G s.heap.size) s σ H locs → lv_has ls 17 [(0, .ref (ga G 0)), (3, .ref (ga G c3)), (6, .int x6), (8, .int x8), (9, .int x9), (10, .int x10), (11, .int x11), (13, .int x13)] → wpX9_lays_L138 Q c3 x6 x8 x9 x10 x11 x13 σ → W p l e ({ frames := 0, cells := 0, slots := 0, locals := 0 }) s m args below meth c H locs 0 0 (Zi G Q below args s) (F0 m 138 ls []) := by
    intro c3 hc3 x6 x8 x9 x10 x11 x13 σ H locs ls hH hl h
    unfold wpX9_lays_L138 at h
    refine lv_iconst (v := 0) hx hb dX9_lays_138 (by decide) ?_
    refine lv_istore (lv' := [(14, .int 0), (0, .ref (ga G 0)), (3, .ref (ga G c3)), (6, .int x6), (8, .int x8), (9, .int x9), (10, .int x10), (11, .int x11), (13, .int x13)]) hx hb dX9_lays_139 hl (by decide) rfl (fun ls hl => ?_)
    refine lv_iconst (v := 0) hx hb dX9_lays_141 (by decide) ?_
    refine lv_istore (lv' := [(15, .int 0), (14, .int 0), (0, .ref (ga G 0)), (3, .ref (ga G c3)), (6, .int x6), (8, .int x8), (9, .int x9), (10, .int x10), (11, .int x11), (13, .int x13)]) hx hb dX9_lays_142 hl (by decide) rfl (fun ls hl => ?_)
    obtain ⟨nn, h⟩ := h
    exact L144 nn c3 hc3 x6 x8 x9 x10 x11 x13 0 0 σ _ _ ls hH (lv_sub hl [2, 3, 4, 5, 6, 7, 8, 9, 1, 0] rfl) h
  have L126 : ∀ (c3 : Nat) (hc3 : isI G 500 c3) (x6 : Int32) (x8 : Int32) (x9 : Int32) (x10 : Int32) (x11 : Int32) (x13 : Int32) (σ : Sg) (H : Heap) (locs : List Loc) (ls : Array Slot), Hx G (aA G s.heap.size) s σ H locs → lv_has ls 17 [(0, .ref (ga G 0)), (3, .ref (ga G c3)), (6, .int x6), (8, .int x8), (9, .int x9), (10, .int x10), (11, .int x11), (13, .int x13)] → wpX9_lays_L126 Q c3 x6 x8 x9 x10 x11 x13 σ → W p l e ({ frames := 0, cells := 0, slots := 0, locals := 0 }) s m args below meth c H locs 0 0 (Zi G Q below args s) (F0 m 126 ls []) := by
    intro c3 hc3 x6 x8 x9 x10 x11 x13 σ H locs ls hH hl h
    unfold wpX9_lays_L126 at h
    refine lv_aload_n hx hb dX9_lays_126 rfl (lv_at hl 0 rfl) ?_
    refine g_getr hx hb hB inB9 hown hK hH (c0 := 0) h0.1 rfl 53 (by decide) k140 rfl (c1 := 44) rfl dX9_lays_127 ?_
    refine lv_iload hx hb dX9_lays_130 (lv_at hl 3 rfl) ?_
    refine lv_iload hx hb dX9_lays_132 (lv_at hl 5 rfl) ?_
    refine lv_iload hx hb dX9_lays_134 (lv_at hl 7 rfl) ?_
    refine lv_iadd hx hb dX9_lays_136 ?_
    obtain ⟨hi18, h⟩ := h
    refine g_iast hx hb hK hH (c0 := 44) (i := x8) (mA44 h0) hi18 dX9_lays_137 (fun σ18 eσ18 H locs hH => ?_)
    replace h := h σ18 eσ18
    exact L138 c3 hc3 x6 x8 x9 x10 x11 x13 σ18 _ _ ls hH (lv_sub hl [0, 1, 2, 3, 4, 5, 6, 7] rfl) h
  have L73 : ∀ (n73 : Nat) (c3 : Nat) (hc3 : isI G 500 c3) (x4 : Int32) (x5 : Int32) (x6 : Int32) (x7 : Int32) (x8 : Int32) (x9 : Int32) (x10 : Int32) (x11 : Int32) (x12 : Int32) (σ : Sg) (H : Heap) (locs : List Loc) (ls : Array Slot), Hx G (aA G s.heap.size) s σ H locs → lv_has ls 17 [(0, .ref (ga G 0)), (3, .ref (ga G c3)), (4, .int x4), (5, .int x5), (6, .int x6), (7, .int x7), (8, .int x8), (9, .int x9), (10, .int x10), (11, .int x11), (12, .int x12)] → wpX9_lays_L73 Q n73 c3 x4 x5 x6 x7 x8 x9 x10 x11 x12 σ → W p l e ({ frames := 0, cells := 0, slots := 0, locals := 0 }) s m args below meth c H locs 0 0 (Zi G Q below args s) (F0 m 73 ls []) := by
    intro n73
    induction n73 with
    | zero =>
      intro c3 hc3 x4 x5 x6 x7 x8 x9 x10 x11 x12 σ H locs ls hH hl h
      exact False.elim h
    | succ n73 ih73 =>
      have L92 : ∀ (c3 : Nat) (hc3 : isI G 500 c3) (x4 : Int32) (x5 : Int32) (x6 : Int32) (x7 : Int32) (x8 : Int32) (x9 : Int32) (x10 : Int32) (x11 : Int32) (z0 : Int32) (σ : Sg) (H : Heap) (locs : List Loc) (ls : Array Slot), Hx G (aA G s.heap.size) s σ H locs → lv_has ls 17 [(0, .ref (ga G 0)), (3, .ref (ga G c3)), (4, .int x4), (5, .int x5), (6, .int x6), (7, .int x7), (8, .int x8), (9, .int x9), (10, .int x10), (11, .int x11)] → wpX9_lays_L92 Q (wpX9_lays_L73 Q n73) c3 x4 x5 x6 x7 x8 x9 x10 x11 z0 σ → W p l e ({ frames := 0, cells := 0, slots := 0, locals := 0 }) s m args below meth c H locs 0 0 (Zi G Q below args s) (F0 m 92 ls [.int z0]) := by
        intro c3 hc3 x4 x5 x6 x7 x8 x9 x10 x11 z0 σ H locs ls hH hl h
        unfold wpX9_lays_L92 at h
        refine lv_istore (lv' := [(12, .int z0), (0, .ref (ga G 0)), (3, .ref (ga G c3)), (4, .int x4), (5, .int x5), (6, .int x6), (7, .int x7), (8, .int x8), (9, .int x9), (10, .int x10), (11, .int x11)]) hx hb dX9_lays_92 hl (by decide) rfl (fun ls hl => ?_)
        obtain ⟨x9_19, ex9_19⟩ : ∃ y : Int32, y = x9 + 1 := ⟨_, rfl⟩
        replace h := h x9_19 ex9_19
        refine lv_iinc (v := x9_19) (lv' := [(9, .int x9_19), (12, .int z0), (0, .ref (ga G 0)), (3, .ref (ga G c3)), (4, .int x4), (5, .int x5), (6, .int x6), (7, .int x7), (8, .int x8), (10, .int x10), (11, .int x11)]) hx hb dX9_lays_94 hl (k := 8) rfl (by rw [ex9_19]; rfl) (by decide) rfl (fun ls hl => ?_)
        refine lv_goto (tgt := 73) hx hb dX9_lays_97 (by decide) ?_
        exact ih73 c3 hc3 x4 x5 x6 x7 x8 x9_19 x10 x11 z0 σ _ _ ls hH (lv_sub hl [2, 3, 4, 5, 6, 7, 8, 0, 9, 10, 1] rfl) h
      intro c3 hc3 x4 x5 x6 x7 x8 x9 x10 x11 x12 σ H locs ls hH hl h
      unfold wpX9_lays_L73 at h
      refine lv_iload hx hb dX9_lays_73 (lv_at hl 10 rfl) ?_
      refine lv_if_eq (tgt := 100) hx hb dX9_lays_75 (by decide) (fun q11 => ?_) (fun q11 => ?_)
      · replace h := h.1 q11
        refine lv_iload hx hb dX9_lays_100 (lv_at hl 2 rfl) ?_
        refine lv_iload hx hb dX9_lays_102 (lv_at hl 3 rfl) ?_
        refine lv_iadd hx hb dX9_lays_104 ?_
        refine lv_iload hx hb dX9_lays_105 (lv_at hl 7 rfl) ?_
        refine lv_isub hx hb dX9_lays_107 ?_
        refine lv_topi (fun x13_12 ex13_12 => ?_)
        replace h := h x13_12 ex13_12
        refine lv_istore (lv' := [(13, .int x13_12), (0, .ref (ga G 0)), (3, .ref (ga G c3)), (4, .int x4), (5, .int x5), (6, .int x6), (7, .int x7), (8, .int x8), (9, .int x9), (10, .int x10), (11, .int x11), (12, .int x12)]) hx hb dX9_lays_108 hl (by decide) rfl (fun ls hl => ?_)
        refine lv_iload hx hb dX9_lays_110 (lv_at hl 6 rfl) ?_
        refine lv_if_eq (tgt := 126) hx hb dX9_lays_112 (by decide) (fun q13 => ?_) (fun q13 => ?_)
        · replace h := h.1 q13
          exact L126 c3 hc3 x6 x8 x9 x10 x11 x13_12 σ _ _ ls hH (lv_sub hl [1, 2, 5, 7, 8, 9, 10, 0] rfl) h
        · replace h := h.2 q13
          refine lv_aload_n hx hb dX9_lays_115 rfl (lv_at hl 2 rfl) ?_
          refine lv_iload hx hb dX9_lays_116 (lv_at hl 3 rfl) ?_
          refine lv_iconst (v := 1) hx hb dX9_lays_118 (by decide) ?_
          refine lv_iadd hx hb dX9_lays_119 ?_
          obtain ⟨hi14, h⟩ := h
          refine g_iald hx hb hK hH (c0 := c3) hc3 hi14 dX9_lays_120 ?_
          refine lv_bipush (v := 127) hx hb dX9_lays_121 (by decide) ?_
          refine lv_icmp_le (tgt := 138) hx hb dX9_lays_123 (by decide) (fun q15 => ?_) (fun q15 => ?_)
          · replace h := h.1 q15
            exact L138 c3 hc3 x6 x8 x9 x10 x11 x13_12 σ _ _ ls hH (lv_sub hl [1, 2, 5, 7, 8, 9, 10, 0] rfl) h
          · replace h := h.2 q15
            exact L126 c3 hc3 x6 x8 x9 x10 x11 x13_12 σ _ _ ls hH (lv_sub hl [1, 2, 5, 7, 8, 9, 10, 0] rfl) h
      · replace h := h.2 q11
        refine lv_aload_n hx hb dX9_lays_78 rfl (lv_at hl 1 rfl) ?_
        refine lv_iload hx hb dX9_lays_79 (lv_at hl 7 rfl) ?_
        obtain ⟨hi16, h⟩ := h
        refine g_iald hx hb hK hH (c0 := c3) hc3 hi16 dX9_lays_81 ?_
        refine lv_bipush (v := 127) hx hb dX9_lays_82 (by decide) ?_
        refine lv_icmp_le (tgt := 91) hx hb dX9_lays_84 (by decide) (fun q17 => ?_) (fun q17 => ?_)
        · replace h := h.1 q17
          refine lv_iconst (v := 0) hx hb dX9_lays_91 (by decide) ?_
          exact L92 c3 hc3 x4 x5 x6 x7 x8 x9 x10 x11 0 σ _ _ ls hH (lv_sub hl [0, 1, 2, 3, 4, 5, 6, 7, 8, 9] rfl) h
        · replace h := h.2 q17
          refine lv_iconst (v := 1) hx hb dX9_lays_87 (by decide) ?_
          refine lv_goto (tgt := 92) hx hb dX9_lays_88 (by decide) ?_
          exact L92 c3 hc3 x4 x5 x6 x7 x8 x9 x10 x11 1 σ _ _ ls hH (lv_sub hl [0, 1, 2, 3, 4, 5, 6, 7, 8, 9] rfl) h
  have L71 : ∀ (c3 : Nat) (hc3 : isI G 500 c3) (x4 : Int32) (x5 : Int32) (x6 : Int32) (x7 : Int32) (x8 : Int32) (x9 : Int32) (x10 : Int32) (x11 : Int32) (z0 : Int32) (σ : Sg) (H : Heap) (locs : List Loc) (ls : Array Slot), Hx G (aA G s.heap.size) s σ H locs → lv_has ls 17 [(0, .ref (ga G 0)), (3, .ref (ga G c3)), (4, .int x4), (5, .int x5), (6, .int x6), (7, .int x7), (8, .int x8), (9, .int x9), (10, .int x10), (11, .int x11)] → wpX9_lays_L71 Q c3 x4 x5 x6 x7 x8 x9 x10 x11 z0 σ → W p l e ({ frames := 0, cells := 0, slots := 0, locals := 0 }) s m args below meth c H locs 0 0 (Zi G Q below args s) (F0 m 71 ls [.int z0]) := by
    intro c3 hc3 x4 x5 x6 x7 x8 x9 x10 x11 z0 σ H locs ls hH hl h
    unfold wpX9_lays_L71 at h
    refine lv_istore (lv' := [(12, .int z0), (0, .ref (ga G 0)), (3, .ref (ga G c3)), (4, .int x4), (5, .int x5), (6, .int x6), (7, .int x7), (8, .int x8), (9, .int x9), (10, .int x10), (11, .int x11)]) hx hb dX9_lays_71 hl (by decide) rfl (fun ls hl => ?_)
    obtain ⟨nn, h⟩ := h
    exact L73 nn c3 hc3 x4 x5 x6 x7 x8 x9 x10 x11 z0 σ _ _ ls hH (lv_sub hl [1, 2, 3, 4, 5, 6, 7, 8, 9, 10, 0] rfl) h
  have L55 : ∀ (c3 : Nat) (hc3 : isI G 500 c3) (x4 : Int32) (x5 : Int32) (x6 : Int32) (x7 : Int32) (x8 : Int32) (x9 : Int32) (x10 : Int32) (σ : Sg) (H : Heap) (locs : List Loc) (ls : Array Slot), Hx G (aA G s.heap.size) s σ H locs → lv_has ls 17 [(0, .ref (ga G 0)), (3, .ref (ga G c3)), (4, .int x4), (5, .int x5), (6, .int x6), (7, .int x7), (8, .int x8), (9, .int x9), (10, .int x10)] → wpX9_lays_L55 Q c3 x4 x5 x6 x7 x8 x9 x10 σ → W p l e ({ frames := 0, cells := 0, slots := 0, locals := 0 }) s m args below meth c H locs 0 0 (Zi G Q below args s) (F0 m 55 ls []) := by
    intro c3 hc3 x4 x5 x6 x7 x8 x9 x10 σ H locs ls hH hl h
    unfold wpX9_lays_L55 at h
    refine lv_iload hx hb dX9_lays_55 (lv_at hl 7 rfl) ?_
    refine lv_istore (lv' := [(11, .int x9), (0, .ref (ga G 0)), (3, .ref (ga G c3)), (4, .int x4), (5, .int x5), (6, .int x6), (7, .int x7), (8, .int x8), (9, .int x9), (10, .int x10)]) hx hb dX9_lays_57 hl (by decide) rfl (fun ls hl => ?_)
    refine lv_iload hx hb dX9_lays_59 (lv_at hl 5 rfl) ?_
    refine lv_iconst (v := 4) hx hb dX9_lays_61 (by decide) ?_
    refine lv_iand hx hb dX9_lays_62 ?_
    refine lv_if_eq (tgt := 70) hx hb dX9_lays_63 (by decide) (fun q10 => ?_) (fun q10 => ?_)
    · replace h := h.1 q10
      refine lv_iconst (v := 0) hx hb dX9_lays_70 (by decide) ?_
      exact L71 c3 hc3 x4 x5 x6 x7 x8 x9 x10 x9 0 σ _ _ ls hH (lv_sub hl [1, 2, 3, 4, 5, 6, 7, 8, 9, 0] rfl) h
    · replace h := h.2 q10
      refine lv_iconst (v := 1) hx hb dX9_lays_66 (by decide) ?_
      refine lv_goto (tgt := 71) hx hb dX9_lays_67 (by decide) ?_
      exact L71 c3 hc3 x4 x5 x6 x7 x8 x9 x10 x9 1 σ _ _ ls hH (lv_sub hl [1, 2, 3, 4, 5, 6, 7, 8, 9, 0] rfl) h
  have L19 : ∀ (x1 : Int32) (x2 : Int32) (c3 : Nat) (hc3 : isI G 500 c3) (x4 : Int32) (x5 : Int32) (x6 : Int32) (z0 : Int32) (σ : Sg) (H : Heap) (locs : List Loc) (ls : Array Slot), Hx G (aA G s.heap.size) s σ H locs → lv_has ls 17 [(0, .ref (ga G 0)), (1, .int x1), (2, .int x2), (3, .ref (ga G c3)), (4, .int x4), (5, .int x5), (6, .int x6)] → wpX9_lays_L19 Q x1 x2 c3 x4 x5 x6 z0 σ → W p l e ({ frames := 0, cells := 0, slots := 0, locals := 0 }) s m args below meth c H locs 0 0 (Zi G Q below args s) (F0 m 19 ls [.int z0]) := by
    intro x1 x2 c3 hc3 x4 x5 x6 z0 σ H locs ls hH hl h
    unfold wpX9_lays_L19 at h
    refine lv_istore (lv' := [(7, .int z0), (0, .ref (ga G 0)), (1, .int x1), (2, .int x2), (3, .ref (ga G c3)), (4, .int x4), (5, .int x5), (6, .int x6)]) hx hb dX9_lays_19 hl (by decide) rfl (fun ls hl => ?_)
    refine lv_bipush (v := 32) hx hb dX9_lays_21 (by decide) ?_
    refine lv_iload_n hx hb dX9_lays_23 rfl (lv_at hl 2 rfl) ?_
    refine lv_imul hx hb dX9_lays_24 ?_
    refine lv_iload_n hx hb dX9_lays_25 rfl (lv_at hl 3 rfl) ?_
    refine lv_bipush (v := 31) hx hb dX9_lays_26 (by decide) ?_
    refine lv_iand hx hb dX9_lays_28 ?_
    refine lv_iadd hx hb dX9_lays_29 ?_
    refine lv_topi (fun x8_4 ex8_4 => ?_)
    replace h := h x8_4 ex8_4
    refine lv_istore (lv' := [(8, .int x8_4), (7, .int z0), (0, .ref (ga G 0)), (1, .int x1), (2, .int x2), (3, .ref (ga G c3)), (4, .int x4), (5, .int x5), (6, .int x6)]) hx hb dX9_lays_30 hl (by decide) rfl (fun ls hl => ?_)
    refine lv_iload hx hb dX9_lays_32 (lv_at hl 6 rfl) ?_
    refine lv_iconst (v := 2) hx hb dX9_lays_34 (by decide) ?_
    refine lv_iadd hx hb dX9_lays_35 ?_
    refine lv_topi (fun x9_5 ex9_5 => ?_)
    replace h := h x9_5 ex9_5
    refine lv_istore (lv' := [(9, .int x9_5), (8, .int x8_4), (7, .int z0), (0, .ref (ga G 0)), (1, .int x1), (2, .int x2), (3, .ref (ga G c3)), (4, .int x4), (5, .int x5), (6, .int x6)]) hx hb dX9_lays_36 hl (by decide) rfl (fun ls hl => ?_)
    refine lv_iconst (v := 0) hx hb dX9_lays_38 (by decide) ?_
    refine lv_istore (lv' := [(10, .int 0), (9, .int x9_5), (8, .int x8_4), (7, .int z0), (0, .ref (ga G 0)), (1, .int x1), (2, .int x2), (3, .ref (ga G c3)), (4, .int x4), (5, .int x5), (6, .int x6)]) hx hb dX9_lays_39 hl (by decide) rfl (fun ls hl => ?_)
    refine lv_iload hx hb dX9_lays_41 (lv_at hl 3 rfl) ?_
    refine lv_if_eq (tgt := 55) hx hb dX9_lays_43 (by decide) (fun q6 => ?_) (fun q6 => ?_)
    · replace h := h.1 q6
      exact L55 c3 hc3 x4 x5 x6 z0 x8_4 x9_5 0 σ _ _ ls hH (lv_sub hl [4, 7, 8, 9, 10, 3, 2, 1, 0] rfl) h
    · replace h := h.2 q6
      refine lv_aload_n hx hb dX9_lays_46 rfl (lv_at hl 7 rfl) ?_
      refine lv_iload hx hb dX9_lays_47 (lv_at hl 1 rfl) ?_
      obtain ⟨hi7, h⟩ := h
      refine g_iald hx hb hK hH (c0 := c3) hc3 hi7 dX9_lays_49 ?_
      refine lv_topi (fun x10_8 ex10_8 => ?_)
      replace h := h x10_8 ex10_8
      refine lv_istore (lv' := [(10, .int x10_8), (9, .int x9_5), (8, .int x8_4), (7, .int z0), (0, .ref (ga G 0)), (1, .int x1), (2, .int x2), (3, .ref (ga G c3)), (4, .int x4), (5, .int x5), (6, .int x6)]) hx hb dX9_lays_50 hl (by decide) rfl (fun ls hl => ?_)
      obtain ⟨x9_9, ex9_9⟩ : ∃ y : Int32, y = x9_5 + 1 := ⟨_, rfl⟩
      replace h := h x9_9 ex9_9
      refine lv_iinc (v := x9_9) (lv' := [(9, .int x9_9), (10, .int x10_8), (8, .int x8_4), (7, .int z0), (0, .ref (ga G 0)), (1, .int x1), (2, .int x2), (3, .ref (ga G c3)), (4, .int x4), (5, .int x5), (6, .int x6)]) hx hb dX9_lays_52 hl (k := 1) rfl (by rw [ex9_9]; rfl) (by decide) rfl (fun ls hl => ?_)
      exact L55 c3 hc3 x4 x5 x6 z0 x8_4 x9_9 x10_8 σ _ _ ls hH (lv_sub hl [4, 7, 8, 9, 10, 3, 2, 0, 1] rfl) h
  unfold wpX9_lays at h
  refine lv_aload_n hx hb dX9_lays_0 rfl (lv_at hl 3 rfl) ?_
  refine lv_iload hx hb dX9_lays_1 (lv_at hl 4 rfl) ?_
  obtain ⟨hi1, h⟩ := h
  refine g_iald hx hb hK hH (c0 := c3) hc3 hi1 dX9_lays_3 ?_
  refine lv_topi (fun x6_2 ex6_2 => ?_)
  replace h := h x6_2 ex6_2
  refine lv_istore (lv' := [(6, .int x6_2), (0, .ref (ga G 0)), (1, .int x1), (2, .int x2), (3, .ref (ga G c3)), (4, .int x4), (5, .int x5)]) hx hb dX9_lays_4 hl (by decide) rfl (fun ls hl => ?_)
  refine lv_iload hx hb dX9_lays_6 (lv_at hl 0 rfl) ?_
  refine lv_bipush (v := 64) hx hb dX9_lays_8 (by decide) ?_
  refine lv_iand hx hb dX9_lays_10 ?_
  refine lv_if_eq (tgt := 18) hx hb dX9_lays_11 (by decide) (fun q3 => ?_) (fun q3 => ?_)
  · replace h := h.1 q3
    refine lv_iconst (v := 0) hx hb dX9_lays_18 (by decide) ?_
    exact L19 x1 x2 c3 hc3 x4 x5 x6_2 0 σ _ _ ls hH (lv_sub hl [1, 2, 3, 4, 5, 6, 0] rfl) h
  · replace h := h.2 q3
    refine lv_iconst (v := 1) hx hb dX9_lays_14 (by decide) ?_
    refine lv_goto (tgt := 19) hx hb dX9_lays_15 (by decide) ?_
    exact L19 x1 x2 c3 hc3 x4 x5 x6_2 1 σ _ _ ls hH (lv_sub hl [1, 2, 3, 4, 5, 6, 0] rfl) h
def wpX9_deliver_L51 (Q : Sg → Prop) : Nat → Int32 → Int32 → Int32 → Int32 → Sg → Prop
  | 0, _, _, _, _, _ => False
  | n + 1, x1, x2, x3, x4, σ => ((x3 ≤ x4 → (vp_in x1 6 ∧ (vp_in x1 6 ∧ ∀ σ11 : Sg, σ11 = up2 σ 51 x1.toNatClampNeg ((σ 51 x1.toNatClampNeg) + 1) → Q σ11))) ∧ (¬ (x3 ≤ x4) → (vp_in ((120 * x2) + x4) 23040 ∧ (vp_in ((120 * x1) + x4) 720 ∧ ∀ σ13 : Sg, σ13 = up2 σ 58 (((120 * x1) + x4).toNatClampNeg) (σ 57 ((120 * x2) + x4).toNatClampNeg) → (vp_in x1 6 ∧ (vp_in ((120 * x2) + x4) 23040 ∧ (vp_in x1 6 ∧ ∀ σ16 : Sg, σ16 = up2 σ13 54 x1.toNatClampNeg ((31 * (σ13 54 x1.toNatClampNeg)) + (σ13 57 ((120 * x2) + x4).toNatClampNeg)) → ∀ x4_17 : Int32, x4_17 = x4 + 1 → (wpX9_deliver_L51 Q n) x1 x2 x3 x4_17 σ16)))))))
def wpX9_deliver (x1 : Int32) (x2 : Int32) (σ : Sg) (Q : Sg → Prop) : Prop := (vp_in x2 192 ∧ ∀ σ1 : Sg, σ1 = up2 σ 59 x2.toNatClampNeg 0 → (vp_in x2 192 ∧ ∀ x3_3 : Int32, x3_3 = σ1 56 x2.toNatClampNeg → (vp_in x1 6 ∧ ∀ σ4 : Sg, σ4 = up2 σ1 55 x1.toNatClampNeg x3_3 → (vp_in x1 6 ∧ (vp_in x1 6 ∧ ∀ σ6 : Sg, σ6 = up2 σ4 52 x1.toNatClampNeg ((σ4 52 x1.toNatClampNeg) + x3_3) → (vp_in x1 6 ∧ (vp_in x1 6 ∧ ∀ σ8 : Sg, σ8 = up2 σ6 54 x1.toNatClampNeg ((31 * (σ6 54 x1.toNatClampNeg)) + x3_3) → ∃ nn, wpX9_deliver_L51 Q nn x1 x2 x3_3 0 σ8)))))))
set_option maxHeartbeats 8000000 in
set_option maxRecDepth 100000 in
theorem tX9_deliver {l : Launch} {G : GG} {x1 : Int32} {x2 : Int32} {σ : Sg} {Q : Sg → Prop} (h0 : isModel G) (h : wpX9_deliver x1 x2 σ Q) : Kv l G yX9_deliver (wB yX9_deliver prog_11_method_41_code 5 none) ({ frames := 0, cells := 0, slots := 0, locals := 0 }) [.ref (ga G 0), .int x1, .int x2] σ Q := by
  refine K_of (cc := cX9_deliver) (maxL := 5) (ret := none) (by decide) rfl (Nat.le_of_ble_eq_true rfl) ?_
  intro p e s m args below meth c ls B hH hl
  obtain ⟨hx, hb, hr, hts, hown, hlk, hml, hK, hX⟩ := B
  replace hl : lv_has ls 5 [(0, .ref (ga G 0)), (1, .int x1), (2, .int x2)] := hl
  have hB : ∀ w ∈ BIG, w.before args s = true := fun w h9 => hts w (List.mem_cons_of_mem _ h9)
  clear hts
  have k162 := hB _ bw4_170
  have k165 := hB _ bw4_171
  have k171 := hB _ bw4_173
  have k174 := hB _ bw4_174
  have k177 := hB _ bw4_175
  have k180 := hB _ bw4_176
  have k183 := hB _ bw4_177
  have k186 := hB _ bw4_178
  have L51 : ∀ (n51 : Nat) (x1 : Int32) (x2 : Int32) (x3 : Int32) (x4 : Int32) (σ : Sg) (H : Heap) (locs : List Loc) (ls : Array Slot), Hx G (aA G s.heap.size) s σ H locs → lv_has ls 5 [(0, .ref (ga G 0)), (1, .int x1), (2, .int x2), (3, .int x3), (4, .int x4)] → wpX9_deliver_L51 Q n51 x1 x2 x3 x4 σ → W p l e ({ frames := 0, cells := 0, slots := 0, locals := 0 }) s m args below meth c H locs 0 0 (Zv G Q below args s) (F0 m 51 ls []) := by
    intro n51
    induction n51 with
    | zero =>
      intro x1 x2 x3 x4 σ H locs ls hH hl h
      exact False.elim h
    | succ n51 ih51 =>
      intro x1 x2 x3 x4 σ H locs ls hH hl h
      unfold wpX9_deliver_L51 at h
      refine lv_iload hx hb dX9_deliver_51 (lv_at hl 4 rfl) ?_
      refine lv_iload_n hx hb dX9_deliver_53 rfl (lv_at hl 3 rfl) ?_
      refine lv_icmp_ge (tgt := 115) hx hb dX9_deliver_54 (by decide) (fun q9 => ?_) (fun q9 => ?_)
      · replace h := h.1 q9
        refine lv_aload_n hx hb dX9_deliver_115 rfl (lv_at hl 0 rfl) ?_
        refine g_getr hx hb hB inB9 hown hK hH (c0 := 0) h0.1 rfl 60 (by decide) k162 rfl (c1 := 51) rfl dX9_deliver_116 ?_
        refine lv_iload_n hx hb dX9_deliver_119 rfl (lv_at hl 1 rfl) ?_
        refine lv_dup2_11 hx hb dX9_deliver_120 rfl rfl ?_
        obtain ⟨hi10, h⟩ := h
        refine g_iald hx hb hK hH (c0 := 51) (mA51 h0) hi10 dX9_deliver_121 ?_
        refine lv_iconst (v := 1) hx hb dX9_deliver_122 (by decide) ?_
        refine lv_iadd hx hb dX9_deliver_123 ?_
        obtain ⟨hi11, h⟩ := h
        refine g_iast hx hb hK hH (c0 := 51) (i := x1) (mA51 h0) hi11 dX9_deliver_124 (fun σ11 eσ11 H locs hH => ?_)
        replace h := h σ11 eσ11
        exact g_vret hx hb hr hK hlk h hH dX9_deliver_125
      · replace h := h.2 q9
        refine lv_aload_n hx hb dX9_deliver_57 rfl (lv_at hl 0 rfl) ?_
        refine g_getr hx hb hB inB9 hown hK hH (c0 := 0) h0.1 rfl 67 (by decide) k183 rfl (c1 := 58) rfl dX9_deliver_58 ?_
        refine lv_bipush (v := 120) hx hb dX9_deliver_61 (by decide) ?_
        refine lv_iload_n hx hb dX9_deliver_63 rfl (lv_at hl 1 rfl) ?_
        refine lv_imul hx hb dX9_deliver_64 ?_
        refine lv_iload hx hb dX9_deliver_65 (lv_at hl 4 rfl) ?_
        refine lv_iadd hx hb dX9_deliver_67 ?_
        refine lv_aload_n hx hb dX9_deliver_68 rfl (lv_at hl 0 rfl) ?_
        refine g_getr hx hb hB inB9 hown hK hH (c0 := 0) h0.1 rfl 66 (by decide) k180 rfl (c1 := 57) rfl dX9_deliver_69 ?_
        refine lv_bipush (v := 120) hx hb dX9_deliver_72 (by decide) ?_
        refine lv_iload_n hx hb dX9_deliver_74 rfl (lv_at hl 2 rfl) ?_
        refine lv_imul hx hb dX9_deliver_75 ?_
        refine lv_iload hx hb dX9_deliver_76 (lv_at hl 4 rfl) ?_
        refine lv_iadd hx hb dX9_deliver_78 ?_
        obtain ⟨hi12, h⟩ := h
        refine g_iald hx hb hK hH (c0 := 57) (mA57 h0) hi12 dX9_deliver_79 ?_
        obtain ⟨hi13, h⟩ := h
        refine g_iast hx hb hK hH (c0 := 58) (i := (120 * x1) + x4) (mA58 h0) hi13 dX9_deliver_80 (fun σ13 eσ13 H locs hH => ?_)
        replace h := h σ13 eσ13
        refine lv_aload_n hx hb dX9_deliver_81 rfl (lv_at hl 0 rfl) ?_
        refine g_getr hx hb hB inB9 hown hK hH (c0 := 0) h0.1 rfl 63 (by decide) k171 rfl (c1 := 54) rfl dX9_deliver_82 ?_
        refine lv_iload_n hx hb dX9_deliver_85 rfl (lv_at hl 1 rfl) ?_
        refine lv_bipush (v := 31) hx hb dX9_deliver_86 (by decide) ?_
        refine lv_aload_n hx hb dX9_deliver_88 rfl (lv_at hl 0 rfl) ?_
        refine g_getr hx hb hB inB9 hown hK hH (c0 := 0) h0.1 rfl 63 (by decide) k171 rfl (c1 := 54) rfl dX9_deliver_89 ?_
        refine lv_iload_n hx hb dX9_deliver_92 rfl (lv_at hl 1 rfl) ?_
        obtain ⟨hi14, h⟩ := h
        refine g_iald hx hb hK hH (c0 := 54) (mA54 h0) hi14 dX9_deliver_93 ?_
        refine lv_imul hx hb dX9_deliver_94 ?_
        refine lv_aload_n hx hb dX9_deliver_95 rfl (lv_at hl 0 rfl) ?_
        refine g_getr hx hb hB inB9 hown hK hH (c0 := 0) h0.1 rfl 66 (by decide) k180 rfl (c1 := 57) rfl dX9_deliver_96 ?_
        refine lv_bipush (v := 120) hx hb dX9_deliver_99 (by decide) ?_
        refine lv_iload_n hx hb dX9_deliver_101 rfl (lv_at hl 2 rfl) ?_
        refine lv_imul hx hb dX9_deliver_102 ?_
        refine lv_iload hx hb dX9_deliver_103 (lv_at hl 4 rfl) ?_
        refine lv_iadd hx hb dX9_deliver_105 ?_
        obtain ⟨hi15, h⟩ := h
        refine g_iald hx hb hK hH (c0 := 57) (mA57 h0) hi15 dX9_deliver_106 ?_
        refine lv_iadd hx hb dX9_deliver_107 ?_
        obtain ⟨hi16, h⟩ := h
        refine g_iast hx hb hK hH (c0 := 54) (i := x1) (mA54 h0) hi16 dX9_deliver_108 (fun σ16 eσ16 H locs hH => ?_)
        replace h := h σ16 eσ16
        obtain ⟨x4_17, ex4_17⟩ : ∃ y : Int32, y = x4 + 1 := ⟨_, rfl⟩
        replace h := h x4_17 ex4_17
        refine lv_iinc (v := x4_17) (lv' := [(4, .int x4_17), (0, .ref (ga G 0)), (1, .int x1), (2, .int x2), (3, .int x3)]) hx hb dX9_deliver_109 hl (k := 4) rfl (by rw [ex4_17]; rfl) (by decide) rfl (fun ls hl => ?_)
        refine lv_goto (tgt := 51) hx hb dX9_deliver_112 (by decide) ?_
        exact ih51 x1 x2 x3 x4_17 σ16 _ _ ls hH (lv_sub hl [1, 2, 3, 4, 0] rfl) h
  unfold wpX9_deliver at h
  refine lv_aload_n hx hb dX9_deliver_0 rfl (lv_at hl 0 rfl) ?_
  refine g_getr hx hb hB inB9 hown hK hH (c0 := 0) h0.1 rfl 68 (by decide) k186 rfl (c1 := 59) rfl dX9_deliver_1 ?_
  refine lv_iload_n hx hb dX9_deliver_4 rfl (lv_at hl 2 rfl) ?_
  refine lv_iconst (v := 0) hx hb dX9_deliver_5 (by decide) ?_
  obtain ⟨hi1, h⟩ := h
  refine g_zast hx hb hK hH (c0 := 59) (i := x2) (mA59 h0) vz0 hi1 dX9_deliver_6 (fun σ1 eσ1 H locs hH => ?_)
  replace h := h σ1 eσ1
  refine lv_aload_n hx hb dX9_deliver_7 rfl (lv_at hl 0 rfl) ?_
  refine g_getr hx hb hB inB9 hown hK hH (c0 := 0) h0.1 rfl 65 (by decide) k177 rfl (c1 := 56) rfl dX9_deliver_8 ?_
  refine lv_iload_n hx hb dX9_deliver_11 rfl (lv_at hl 2 rfl) ?_
  obtain ⟨hi2, h⟩ := h
  refine g_iald hx hb hK hH (c0 := 56) (mA56 h0) hi2 dX9_deliver_12 ?_
  refine lv_topi (fun x3_3 ex3_3 => ?_)
  replace h := h x3_3 ex3_3
  refine lv_istore_n (lv' := [(3, .int x3_3), (0, .ref (ga G 0)), (1, .int x1), (2, .int x2)]) hx hb dX9_deliver_13 rfl hl (by decide) rfl (fun ls hl => ?_)
  refine lv_aload_n hx hb dX9_deliver_14 rfl (lv_at hl 1 rfl) ?_
  refine g_getr hx hb hB inB9 hown hK hH (c0 := 0) h0.1 rfl 64 (by decide) k174 rfl (c1 := 55) rfl dX9_deliver_15 ?_
  refine lv_iload_n hx hb dX9_deliver_18 rfl (lv_at hl 2 rfl) ?_
  refine lv_iload_n hx hb dX9_deliver_19 rfl (lv_at hl 0 rfl) ?_
  obtain ⟨hi4, h⟩ := h
  refine g_iast hx hb hK hH (c0 := 55) (i := x1) (mA55 h0) hi4 dX9_deliver_20 (fun σ4 eσ4 H locs hH => ?_)
  replace h := h σ4 eσ4
  refine lv_aload_n hx hb dX9_deliver_21 rfl (lv_at hl 1 rfl) ?_
  refine g_getr hx hb hB inB9 hown hK hH (c0 := 0) h0.1 rfl 61 (by decide) k165 rfl (c1 := 52) rfl dX9_deliver_22 ?_
  refine lv_iload_n hx hb dX9_deliver_25 rfl (lv_at hl 2 rfl) ?_
  refine lv_dup2_11 hx hb dX9_deliver_26 rfl rfl ?_
  obtain ⟨hi5, h⟩ := h
  refine g_iald hx hb hK hH (c0 := 52) (mA52 h0) hi5 dX9_deliver_27 ?_
  refine lv_iload_n hx hb dX9_deliver_28 rfl (lv_at hl 0 rfl) ?_
  refine lv_iadd hx hb dX9_deliver_29 ?_
  obtain ⟨hi6, h⟩ := h
  refine g_iast hx hb hK hH (c0 := 52) (i := x1) (mA52 h0) hi6 dX9_deliver_30 (fun σ6 eσ6 H locs hH => ?_)
  replace h := h σ6 eσ6
  refine lv_aload_n hx hb dX9_deliver_31 rfl (lv_at hl 1 rfl) ?_
  refine g_getr hx hb hB inB9 hown hK hH (c0 := 0) h0.1 rfl 63 (by decide) k171 rfl (c1 := 54) rfl dX9_deliver_32 ?_
  refine lv_iload_n hx hb dX9_deliver_35 rfl (lv_at hl 2 rfl) ?_
  refine lv_bipush (v := 31) hx hb dX9_deliver_36 (by decide) ?_
  refine lv_aload_n hx hb dX9_deliver_38 rfl (lv_at hl 1 rfl) ?_
  refine g_getr hx hb hB inB9 hown hK hH (c0 := 0) h0.1 rfl 63 (by decide) k171 rfl (c1 := 54) rfl dX9_deliver_39 ?_
  refine lv_iload_n hx hb dX9_deliver_42 rfl (lv_at hl 2 rfl) ?_
  obtain ⟨hi7, h⟩ := h
  refine g_iald hx hb hK hH (c0 := 54) (mA54 h0) hi7 dX9_deliver_43 ?_
  refine lv_imul hx hb dX9_deliver_44 ?_
  refine lv_iload_n hx hb dX9_deliver_45 rfl (lv_at hl 0 rfl) ?_
  refine lv_iadd hx hb dX9_deliver_46 ?_
  obtain ⟨hi8, h⟩ := h
  refine g_iast hx hb hK hH (c0 := 54) (i := x1) (mA54 h0) hi8 dX9_deliver_47 (fun σ8 eσ8 H locs hH => ?_)
  replace h := h σ8 eσ8
  refine lv_iconst (v := 0) hx hb dX9_deliver_48 (by decide) ?_
  refine lv_istore (lv' := [(4, .int 0), (3, .int x3_3), (0, .ref (ga G 0)), (1, .int x1), (2, .int x2)]) hx hb dX9_deliver_49 hl (by decide) rfl (fun ls hl => ?_)
  obtain ⟨nn, h⟩ := h
  exact L51 nn x1 x2 x3_3 0 σ8 _ _ ls hH (lv_sub hl [2, 3, 4, 1, 0] rfl) h
def wpX9_unitComes_L174 (Q : Sg → Prop) : Nat → Int32 → Sg → Prop
  | 0, _, _ => False
  | n + 1, x4, σ => (vp_in x4 6 ∧ (vp_in ((32 * x4) + ((σ 51 x4.toNatClampNeg) &&& 31)) 192 ∧ (((σ 59 ((32 * x4) + ((σ 51 x4.toNatClampNeg) &&& 31)).toNatClampNeg) = 0 → Q σ) ∧ (¬ ((σ 59 ((32 * x4) + ((σ 51 x4.toNatClampNeg) &&& 31)).toNatClampNeg) = 0) → (vp_in x4 6 ∧ wpX9_deliver x4 ((32 * x4) + ((σ 51 x4.toNatClampNeg) &&& 31)) σ (fun σ24 => (wpX9_unitComes_L174 Q n) x4 σ24))))))
def wpX9_unitComes_L123 (Q : Sg → Prop) : Nat → Int32 → Int32 → Int32 → Int32 → Sg → Prop
  | 0, _, _, _, _, _ => False
  | n + 1, x3, x4, x7, x8, σ => ((x3 ≤ (x8 + 1) → ∃ nn, wpX9_unitComes_L174 Q nn x4 σ) ∧ (¬ (x3 ≤ (x8 + 1)) → (vp_in (((256 * x4) + 1) + x8) 1536 ∧ (vp_in x8 128 ∧ (vp_in ((120 * x7) + x8) 23040 ∧ ∀ σ18 : Sg, σ18 = up2 σ 57 (((120 * x7) + x8).toNatClampNeg) ((σ 50 (((256 * x4) + 1) + x8).toNatClampNeg) ^^^ (σ 71 x8.toNatClampNeg)) → ∀ x8_19 : Int32, x8_19 = x8 + 1 → (wpX9_unitComes_L123 Q n) x3 x4 x7 x8_19 σ18)))))
def wpX9_unitComes_L77 (Q : Sg → Prop) (x4 : Int32) (σ : Sg) : Prop := (vp_in x4 6 ∧ (vp_in x4 6 ∧ ∀ σ14 : Sg, σ14 = up2 σ 53 x4.toNatClampNeg ((σ 53 x4.toNatClampNeg) + 1) → Q σ14))
def wpX9_unitComes (x1 : Int32) (x2 : Int32) (x3 : Int32) (σ : Sg) (Q : Sg → Prop) : Prop := wpX9_at x1 x2 σ (fun r1 σ1 => (vp_in r1 6 ∧ ∀ x5_3 : Int32, x5_3 = σ1 51 r1.toNatClampNeg → (vp_in (256 * r1) 1536 ∧ ∀ x6_5 : Int32, x6_5 = (x5_3 - 32) + ((((σ1 50 (256 * r1).toNatClampNeg) &&& 63) - (x5_3 - 32)) &&& 63) → ∀ x7_6 : Int32, x7_6 = (32 * r1) + (x6_5 &&& 31) → ((x6_5 < x5_3 → wpX9_unitComes_L77 Q r1 σ1) ∧ (¬ (x6_5 < x5_3) → (vp_in x7_6 192 ∧ (((σ1 59 x7_6.toNatClampNeg) = 0 → wpX9_makeStream (1 - x1) x2 x6_5 (x3 - 1) σ1 (fun σ10 => (vp_in x7_6 192 ∧ ∀ σ11 : Sg, σ11 = up2 σ10 59 x7_6.toNatClampNeg 1 → (vp_in x7_6 192 ∧ ∀ σ12 : Sg, σ12 = up2 σ11 56 x7_6.toNatClampNeg (x3 - 1) → ∃ nn, wpX9_unitComes_L123 Q nn x3 r1 x7_6 0 σ12)))) ∧ (¬ ((σ1 59 x7_6.toNatClampNeg) = 0) → wpX9_unitComes_L77 Q r1 σ1))))))))
set_option maxHeartbeats 8000000 in
set_option maxRecDepth 100000 in
theorem tX9_unitComes {l : Launch} {G : GG} {x1 : Int32} {x2 : Int32} {x3 : Int32} {σ : Sg} {Q : Sg → Prop} (h0 : isModel G) (h : wpX9_unitComes x1 x2 x3 σ Q) : Kv l G yX9_unitComes (wB yX9_unitComes prog_11_method_40_code 9 none) ({ frames := 3, cells := 0, slots := 0, locals := 71 }) [.ref (ga G 0), .int x1, .int x2, .int x3] σ Q := by
  refine K_of (cc := cX9_unitComes) (maxL := 9) (ret := none) (by decide) rfl (Nat.le_of_ble_eq_true rfl) ?_
  intro p e s m args below meth c ls B hH hl
  obtain ⟨hx, hb, hr, hts, hown, hlk, hml, hK, hX⟩ := B
  replace hl : lv_has ls 9 [(0, .ref (ga G 0)), (1, .int x1), (2, .int x2), (3, .int x3)] := hl
  have hB : ∀ w ∈ BIG, w.before args s = true := fun w h9 => hts w (List.mem_cons_of_mem _ h9)
  clear hts
  have k159 := hB _ bw4_169
  have k162 := hB _ bw4_170
  have k168 := hB _ bw4_172
  have k177 := hB _ bw4_175
  have k180 := hB _ bw4_176
  have k186 := hB _ bw4_178
  have k222 := hB _ bw4_190
  have L174 : ∀ (n174 : Nat) (x4 : Int32) (σ : Sg) (H : Heap) (locs : List Loc) (ls : Array Slot), Hx G (aA G s.heap.size) s σ H locs → lv_has ls 9 [(0, .ref (ga G 0)), (4, .int x4)] → wpX9_unitComes_L174 Q n174 x4 σ → W p l e ({ frames := 3, cells := 0, slots := 0, locals := 71 }) s m args below meth c H locs 0 0 (Zv G Q below args s) (F0 m 174 ls []) := by
    intro n174
    induction n174 with
    | zero =>
      intro x4 σ H locs ls hH hl h
      exact False.elim h
    | succ n174 ih174 =>
      intro x4 σ H locs ls hH hl h
      unfold wpX9_unitComes_L174 at h
      refine lv_aload_n hx hb dX9_unitComes_174 rfl (lv_at hl 0 rfl) ?_
      refine g_getr hx hb hB inB9 hown hK hH (c0 := 0) h0.1 rfl 68 (by decide) k186 rfl (c1 := 59) rfl dX9_unitComes_175 ?_
      refine lv_bipush (v := 32) hx hb dX9_unitComes_178 (by decide) ?_
      refine lv_iload hx hb dX9_unitComes_180 (lv_at hl 1 rfl) ?_
      refine lv_imul hx hb dX9_unitComes_182 ?_
      refine lv_aload_n hx hb dX9_unitComes_183 rfl (lv_at hl 0 rfl) ?_
      refine g_getr hx hb hB inB9 hown hK hH (c0 := 0) h0.1 rfl 60 (by decide) k162 rfl (c1 := 51) rfl dX9_unitComes_184 ?_
      refine lv_iload hx hb dX9_unitComes_187 (lv_at hl 1 rfl) ?_
      obtain ⟨hi20, h⟩ := h
      refine g_iald hx hb hK hH (c0 := 51) (mA51 h0) hi20 dX9_unitComes_189 ?_
      refine lv_bipush (v := 31) hx hb dX9_unitComes_190 (by decide) ?_
      refine lv_iand hx hb dX9_unitComes_192 ?_
      refine lv_iadd hx hb dX9_unitComes_193 ?_
      obtain ⟨hi21, h⟩ := h
      refine g_zald hx hb hK hH (c0 := 59) (mA59 h0) hi21 dX9_unitComes_194 ?_
      refine lv_if_eq (tgt := 223) hx hb dX9_unitComes_195 (by decide) (fun q22 => ?_) (fun q22 => ?_)
      · replace h := h.1 q22
        exact g_vret hx hb hr hK hlk h hH dX9_unitComes_223
      · replace h := h.2 q22
        refine lv_aload_n hx hb dX9_unitComes_198 rfl (lv_at hl 0 rfl) ?_
        refine lv_iload hx hb dX9_unitComes_199 (lv_at hl 1 rfl) ?_
        refine lv_bipush (v := 32) hx hb dX9_unitComes_201 (by decide) ?_
        refine lv_iload hx hb dX9_unitComes_203 (lv_at hl 1 rfl) ?_
        refine lv_imul hx hb dX9_unitComes_205 ?_
        refine lv_aload_n hx hb dX9_unitComes_206 rfl (lv_at hl 0 rfl) ?_
        refine g_getr hx hb hB inB9 hown hK hH (c0 := 0) h0.1 rfl 60 (by decide) k162 rfl (c1 := 51) rfl dX9_unitComes_207 ?_
        refine lv_iload hx hb dX9_unitComes_210 (lv_at hl 1 rfl) ?_
        obtain ⟨hi23, h⟩ := h
        refine g_iald hx hb hK hH (c0 := 51) (mA51 h0) hi23 dX9_unitComes_212 ?_
        refine lv_bipush (v := 31) hx hb dX9_unitComes_213 (by decide) ?_
        refine lv_iand hx hb dX9_unitComes_215 ?_
        refine lv_iadd hx hb dX9_unitComes_216 ?_
        refine g_callVv (As := [.int x4, .int ((32 * x4) + ((σ 51 x4.toNatClampNeg) &&& 31))]) (rest := []) ⟨hx, hb, hml, hown, hB⟩ hK hX aA_hA hH (c0 := 0) (tX9_deliver h0 h) (cwV 2 hB gVX9_356 rfl rfl rfl (by decide +kernel) ⟨Nat.le_of_ble_eq_true rfl, Nat.le_of_ble_eq_true rfl⟩) h0.1 rfl rfl hl.1 rfl (lv_room (Nat.le_of_ble_eq_true rfl)) ⟨Nat.zero_le _, Nat.zero_le _⟩ dX9_unitComes_217 (fun σ24 H locs h hH => ?_)
        refine lv_goto (tgt := 174) hx hb dX9_unitComes_220 (by decide) ?_
        exact ih174 x4 σ24 _ _ ls hH (lv_sub hl [0, 1] rfl) h
  have L123 : ∀ (n123 : Nat) (x3 : Int32) (x4 : Int32) (x7 : Int32) (x8 : Int32) (σ : Sg) (H : Heap) (locs : List Loc) (ls : Array Slot), Hx G (aA G s.heap.size) s σ H locs → lv_has ls 9 [(0, .ref (ga G 0)), (3, .int x3), (4, .int x4), (7, .int x7), (8, .int x8)] → wpX9_unitComes_L123 Q n123 x3 x4 x7 x8 σ → W p l e ({ frames := 3, cells := 0, slots := 0, locals := 71 }) s m args below meth c H locs 0 0 (Zv G Q below args s) (F0 m 123 ls []) := by
    intro n123
    induction n123 with
    | zero =>
      intro x3 x4 x7 x8 σ H locs ls hH hl h
      exact False.elim h
    | succ n123 ih123 =>
      intro x3 x4 x7 x8 σ H locs ls hH hl h
      unfold wpX9_unitComes_L123 at h
      refine lv_iload hx hb dX9_unitComes_123 (lv_at hl 4 rfl) ?_
      refine lv_iconst (v := 1) hx hb dX9_unitComes_125 (by decide) ?_
      refine lv_iadd hx hb dX9_unitComes_126 ?_
      refine lv_iload_n hx hb dX9_unitComes_127 rfl (lv_at hl 1 rfl) ?_
      refine lv_icmp_ge (tgt := 174) hx hb dX9_unitComes_128 (by decide) (fun q15 => ?_) (fun q15 => ?_)
      · replace h := h.1 q15
        obtain ⟨nn, h⟩ := h
        exact L174 nn x4 σ _ _ ls hH (lv_sub hl [0, 2] rfl) h
      · replace h := h.2 q15
        refine lv_aload_n hx hb dX9_unitComes_131 rfl (lv_at hl 0 rfl) ?_
        refine g_getr hx hb hB inB9 hown hK hH (c0 := 0) h0.1 rfl 66 (by decide) k180 rfl (c1 := 57) rfl dX9_unitComes_132 ?_
        refine lv_bipush (v := 120) hx hb dX9_unitComes_135 (by decide) ?_
        refine lv_iload hx hb dX9_unitComes_137 (lv_at hl 3 rfl) ?_
        refine lv_imul hx hb dX9_unitComes_139 ?_
        refine lv_iload hx hb dX9_unitComes_140 (lv_at hl 4 rfl) ?_
        refine lv_iadd hx hb dX9_unitComes_142 ?_
        refine lv_aload_n hx hb dX9_unitComes_143 rfl (lv_at hl 0 rfl) ?_
        refine g_getr hx hb hB inB9 hown hK hH (c0 := 0) h0.1 rfl 59 (by decide) k159 rfl (c1 := 50) rfl dX9_unitComes_144 ?_
        refine lv_sipush (v := 256) hx hb dX9_unitComes_147 (by decide) ?_
        refine lv_iload hx hb dX9_unitComes_150 (lv_at hl 2 rfl) ?_
        refine lv_imul hx hb dX9_unitComes_152 ?_
        refine lv_iconst (v := 1) hx hb dX9_unitComes_153 (by decide) ?_
        refine lv_iadd hx hb dX9_unitComes_154 ?_
        refine lv_iload hx hb dX9_unitComes_155 (lv_at hl 4 rfl) ?_
        refine lv_iadd hx hb dX9_unitComes_157 ?_
        obtain ⟨hi16, h⟩ := h
        refine g_iald hx hb hK hH (c0 := 50) (mA50 h0) hi16 dX9_unitComes_158 ?_
        refine lv_aload_n hx hb dX9_unitComes_159 rfl (lv_at hl 0 rfl) ?_
        refine g_getr hx hb hB inB9 hown hK hH (c0 := 0) h0.1 rfl 80 (by decide) k222 rfl (c1 := 71) rfl dX9_unitComes_160 ?_
        refine lv_iload hx hb dX9_unitComes_163 (lv_at hl 4 rfl) ?_
        obtain ⟨hi17, h⟩ := h
        refine g_iald hx hb hK hH (c0 := 71) (mA71 h0) hi17 dX9_unitComes_165 ?_
        refine lv_ixor hx hb dX9_unitComes_166 ?_
        obtain ⟨hi18, h⟩ := h
        refine g_iast hx hb hK hH (c0 := 57) (i := (120 * x7) + x8) (mA57 h0) hi18 dX9_unitComes_167 (fun σ18 eσ18 H locs hH => ?_)
        replace h := h σ18 eσ18
        obtain ⟨x8_19, ex8_19⟩ : ∃ y : Int32, y = x8 + 1 := ⟨_, rfl⟩
        replace h := h x8_19 ex8_19
        refine lv_iinc (v := x8_19) (lv' := [(8, .int x8_19), (0, .ref (ga G 0)), (3, .int x3), (4, .int x4), (7, .int x7)]) hx hb dX9_unitComes_168 hl (k := 4) rfl (by rw [ex8_19]; rfl) (by decide) rfl (fun ls hl => ?_)
        refine lv_goto (tgt := 123) hx hb dX9_unitComes_171 (by decide) ?_
        exact ih123 x3 x4 x7 x8_19 σ18 _ _ ls hH (lv_sub hl [1, 2, 3, 4, 0] rfl) h
  have L77 : ∀ (x4 : Int32) (σ : Sg) (H : Heap) (locs : List Loc) (ls : Array Slot), Hx G (aA G s.heap.size) s σ H locs → lv_has ls 9 [(0, .ref (ga G 0)), (4, .int x4)] → wpX9_unitComes_L77 Q x4 σ → W p l e ({ frames := 3, cells := 0, slots := 0, locals := 71 }) s m args below meth c H locs 0 0 (Zv G Q below args s) (F0 m 77 ls []) := by
    intro x4 σ H locs ls hH hl h
    unfold wpX9_unitComes_L77 at h
    refine lv_aload_n hx hb dX9_unitComes_77 rfl (lv_at hl 0 rfl) ?_
    refine g_getr hx hb hB inB9 hown hK hH (c0 := 0) h0.1 rfl 62 (by decide) k168 rfl (c1 := 53) rfl dX9_unitComes_78 ?_
    refine lv_iload hx hb dX9_unitComes_81 (lv_at hl 1 rfl) ?_
    refine lv_dup2_11 hx hb dX9_unitComes_83 rfl rfl ?_
    obtain ⟨hi13, h⟩ := h
    refine g_iald hx hb hK hH (c0 := 53) (mA53 h0) hi13 dX9_unitComes_84 ?_
    refine lv_iconst (v := 1) hx hb dX9_unitComes_85 (by decide) ?_
    refine lv_iadd hx hb dX9_unitComes_86 ?_
    obtain ⟨hi14, h⟩ := h
    refine g_iast hx hb hK hH (c0 := 53) (i := x4) (mA53 h0) hi14 dX9_unitComes_87 (fun σ14 eσ14 H locs hH => ?_)
    replace h := h σ14 eσ14
    exact g_vret hx hb hr hK hlk h hH dX9_unitComes_88
  unfold wpX9_unitComes at h
  refine lv_iload_n hx hb dX9_unitComes_0 rfl (lv_at hl 1 rfl) ?_
  refine lv_iload_n hx hb dX9_unitComes_1 rfl (lv_at hl 2 rfl) ?_
  refine g_callSi (As := [.int x1, .int x2]) (rest := []) ⟨hx, hb, hml, hown, hB⟩ hK hX aA_hA hH (tX9_at h) (va_cwS 2 hB gSX9_258 rfl rfl rfl (by decide +kernel) ⟨Nat.le_of_ble_eq_true rfl, Nat.le_of_ble_eq_true rfl⟩) rfl hl.1 rfl (lv_room (Nat.le_of_ble_eq_true rfl)) ⟨Nat.zero_le _, Nat.zero_le _⟩ dX9_unitComes_2 (fun r1 σ1 H locs h hH => ?_)
  refine lv_istore (lv' := [(4, .int r1), (0, .ref (ga G 0)), (1, .int x1), (2, .int x2), (3, .int x3)]) hx hb dX9_unitComes_5 hl (by decide) rfl (fun ls hl => ?_)
  refine lv_aload_n hx hb dX9_unitComes_7 rfl (lv_at hl 1 rfl) ?_
  refine g_getr hx hb hB inB9 hown hK hH (c0 := 0) h0.1 rfl 60 (by decide) k162 rfl (c1 := 51) rfl dX9_unitComes_8 ?_
  refine lv_iload hx hb dX9_unitComes_11 (lv_at hl 0 rfl) ?_
  obtain ⟨hi2, h⟩ := h
  refine g_iald hx hb hK hH (c0 := 51) (mA51 h0) hi2 dX9_unitComes_13 ?_
  refine lv_topi (fun x5_3 ex5_3 => ?_)
  replace h := h x5_3 ex5_3
  refine lv_istore (lv' := [(5, .int x5_3), (4, .int r1), (0, .ref (ga G 0)), (1, .int x1), (2, .int x2), (3, .int x3)]) hx hb dX9_unitComes_14 hl (by decide) rfl (fun ls hl => ?_)
  refine lv_iload hx hb dX9_unitComes_16 (lv_at hl 0 rfl) ?_
  refine lv_bipush (v := 32) hx hb dX9_unitComes_18 (by decide) ?_
  refine lv_isub hx hb dX9_unitComes_20 ?_
  refine lv_aload_n hx hb dX9_unitComes_21 rfl (lv_at hl 2 rfl) ?_
  refine g_getr hx hb hB inB9 hown hK hH (c0 := 0) h0.1 rfl 59 (by decide) k159 rfl (c1 := 50) rfl dX9_unitComes_22 ?_
  refine lv_sipush (v := 256) hx hb dX9_unitComes_25 (by decide) ?_
  refine lv_iload hx hb dX9_unitComes_28 (lv_at hl 1 rfl) ?_
  refine lv_imul hx hb dX9_unitComes_30 ?_
  obtain ⟨hi4, h⟩ := h
  refine g_iald hx hb hK hH (c0 := 50) (mA50 h0) hi4 dX9_unitComes_31 ?_
  refine lv_bipush (v := 63) hx hb dX9_unitComes_32 (by decide) ?_
  refine lv_iand hx hb dX9_unitComes_34 ?_
  refine lv_iload hx hb dX9_unitComes_35 (lv_at hl 0 rfl) ?_
  refine lv_bipush (v := 32) hx hb dX9_unitComes_37 (by decide) ?_
  refine lv_isub hx hb dX9_unitComes_39 ?_
  refine lv_isub hx hb dX9_unitComes_40 ?_
  refine lv_bipush (v := 63) hx hb dX9_unitComes_41 (by decide) ?_
  refine lv_iand hx hb dX9_unitComes_43 ?_
  refine lv_iadd hx hb dX9_unitComes_44 ?_
  refine lv_topi (fun x6_5 ex6_5 => ?_)
  replace h := h x6_5 ex6_5
  refine lv_istore (lv' := [(6, .int x6_5), (5, .int x5_3), (4, .int r1), (0, .ref (ga G 0)), (1, .int x1), (2, .int x2), (3, .int x3)]) hx hb dX9_unitComes_45 hl (by decide) rfl (fun ls hl => ?_)
  refine lv_bipush (v := 32) hx hb dX9_unitComes_47 (by decide) ?_
  refine lv_iload hx hb dX9_unitComes_49 (lv_at hl 2 rfl) ?_
  refine lv_imul hx hb dX9_unitComes_51 ?_
  refine lv_iload hx hb dX9_unitComes_52 (lv_at hl 0 rfl) ?_
  refine lv_bipush (v := 31) hx hb dX9_unitComes_54 (by decide) ?_
  refine lv_iand hx hb dX9_unitComes_56 ?_
  refine lv_iadd hx hb dX9_unitComes_57 ?_
  refine lv_topi (fun x7_6 ex7_6 => ?_)
  replace h := h x7_6 ex7_6
  refine lv_istore (lv' := [(7, .int x7_6), (6, .int x6_5), (5, .int x5_3), (4, .int r1), (0, .ref (ga G 0)), (1, .int x1), (2, .int x2), (3, .int x3)]) hx hb dX9_unitComes_58 hl (by decide) rfl (fun ls hl => ?_)
  refine lv_iload hx hb dX9_unitComes_60 (lv_at hl 1 rfl) ?_
  refine lv_iload hx hb dX9_unitComes_62 (lv_at hl 2 rfl) ?_
  refine lv_icmp_lt (tgt := 77) hx hb dX9_unitComes_64 (by decide) (fun q7 => ?_) (fun q7 => ?_)
  · replace h := h.1 q7
    exact L77 r1 σ1 _ _ ls hH (lv_sub hl [4, 3] rfl) h
  · replace h := h.2 q7
    refine lv_aload_n hx hb dX9_unitComes_67 rfl (lv_at hl 4 rfl) ?_
    refine g_getr hx hb hB inB9 hown hK hH (c0 := 0) h0.1 rfl 68 (by decide) k186 rfl (c1 := 59) rfl dX9_unitComes_68 ?_
    refine lv_iload hx hb dX9_unitComes_71 (lv_at hl 0 rfl) ?_
    obtain ⟨hi8, h⟩ := h
    refine g_zald hx hb hK hH (c0 := 59) (mA59 h0) hi8 dX9_unitComes_73 ?_
    refine lv_if_eq (tgt := 89) hx hb dX9_unitComes_74 (by decide) (fun q9 => ?_) (fun q9 => ?_)
    · replace h := h.1 q9
      refine lv_aload_n hx hb dX9_unitComes_89 rfl (lv_at hl 4 rfl) ?_
      refine lv_iconst (v := 1) hx hb dX9_unitComes_90 (by decide) ?_
      refine lv_iload_n hx hb dX9_unitComes_91 rfl (lv_at hl 5 rfl) ?_
      refine lv_isub hx hb dX9_unitComes_92 ?_
      refine lv_iload_n hx hb dX9_unitComes_93 rfl (lv_at hl 6 rfl) ?_
      refine lv_iload hx hb dX9_unitComes_94 (lv_at hl 1 rfl) ?_
      refine lv_iload_n hx hb dX9_unitComes_96 rfl (lv_at hl 7 rfl) ?_
      refine lv_iconst (v := 1) hx hb dX9_unitComes_97 (by decide) ?_
      refine lv_isub hx hb dX9_unitComes_98 ?_
      refine g_callVv (As := [.int (1 - x1), .int x2, .int x6_5, .int (x3 - 1)]) (rest := []) ⟨hx, hb, hml, hown, hB⟩ hK hX aA_hA hH (c0 := 0) (tX9_makeStream h0 h) (cwV 4 hB gVX9_261 rfl rfl rfl (by decide +kernel) ⟨Nat.le_of_ble_eq_true rfl, Nat.le_of_ble_eq_true rfl⟩) h0.1 rfl rfl hl.1 rfl (lv_room (Nat.le_of_ble_eq_true rfl)) ⟨Nat.zero_le _, Nat.zero_le _⟩ dX9_unitComes_99 (fun σ10 H locs h hH => ?_)
      refine lv_aload_n hx hb dX9_unitComes_102 rfl (lv_at hl 4 rfl) ?_
      refine g_getr hx hb hB inB9 hown hK hH (c0 := 0) h0.1 rfl 68 (by decide) k186 rfl (c1 := 59) rfl dX9_unitComes_103 ?_
      refine lv_iload hx hb dX9_unitComes_106 (lv_at hl 0 rfl) ?_
      refine lv_iconst (v := 1) hx hb dX9_unitComes_108 (by decide) ?_
      obtain ⟨hi11, h⟩ := h
      refine g_zast hx hb hK hH (c0 := 59) (i := x7_6) (mA59 h0) vz1 hi11 dX9_unitComes_109 (fun σ11 eσ11 H locs hH => ?_)
      replace h := h σ11 eσ11
      refine lv_aload_n hx hb dX9_unitComes_110 rfl (lv_at hl 4 rfl) ?_
      refine g_getr hx hb hB inB9 hown hK hH (c0 := 0) h0.1 rfl 65 (by decide) k177 rfl (c1 := 56) rfl dX9_unitComes_111 ?_
      refine lv_iload hx hb dX9_unitComes_114 (lv_at hl 0 rfl) ?_
      refine lv_iload_n hx hb dX9_unitComes_116 rfl (lv_at hl 7 rfl) ?_
      refine lv_iconst (v := 1) hx hb dX9_unitComes_117 (by decide) ?_
      refine lv_isub hx hb dX9_unitComes_118 ?_
      obtain ⟨hi12, h⟩ := h
      refine g_iast hx hb hK hH (c0 := 56) (i := x7_6) (mA56 h0) hi12 dX9_unitComes_119 (fun σ12 eσ12 H locs hH => ?_)
      replace h := h σ12 eσ12
      refine lv_iconst (v := 0) hx hb dX9_unitComes_120 (by decide) ?_
      refine lv_istore (lv' := [(8, .int 0), (7, .int x7_6), (6, .int x6_5), (5, .int x5_3), (4, .int r1), (0, .ref (ga G 0)), (1, .int x1), (2, .int x2), (3, .int x3)]) hx hb dX9_unitComes_121 hl (by decide) rfl (fun ls hl => ?_)
      obtain ⟨nn, h⟩ := h
      exact L123 nn x3 r1 x7_6 0 σ12 _ _ ls hH (lv_sub hl [5, 8, 4, 1, 0] rfl) h
    · replace h := h.2 q9
      exact L77 r1 σ1 _ _ ls hH (lv_sub hl [4, 3] rfl) h
def wpX9_report_L148 (Q : Sg → Prop) (K34 : Int32 → Int32 → Int32 → Int32 → Sg → Prop) (x1 : Int32) (x2 : Int32) (x3 : Int32) (x4 : Int32) (σ : Sg) : Prop := ∀ x4_16 : Int32, x4_16 = x4 + 1 → K34 x1 x2 x3 x4_16 σ
def wpX9_report_L134 (Q : Sg → Prop) (K34 : Int32 → Int32 → Int32 → Int32 → Sg → Prop) (x1 : Int32) (x2 : Int32) (x3 : Int32) (x4 : Int32) (z0 : Int32) (σ : Sg) : Prop := ((z0 = 0 → wpX9_report_L148 Q K34 x1 x2 x3 x4 σ) ∧ (¬ (z0 = 0) → wpX9_confirm x1 x4 σ (fun σ18 => wpX9_report_L148 Q K34 x1 x2 x3 x4 σ18)))
def wpX9_report_L133 (Q : Sg → Prop) (K34 : Int32 → Int32 → Int32 → Int32 → Sg → Prop) (x1 : Int32) (x2 : Int32) (x3 : Int32) (x4 : Int32) (σ : Sg) : Prop := wpX9_report_L134 Q K34 x1 x2 x3 x4 0 σ
def wpX9_report_L129 (Q : Sg → Prop) (K34 : Int32 → Int32 → Int32 → Int32 → Sg → Prop) (x1 : Int32) (x2 : Int32) (x3 : Int32) (x4 : Int32) (σ : Sg) : Prop := wpX9_report_L134 Q K34 x1 x2 x3 x4 1 σ
def wpX9_report_L34 (Q : Sg → Prop) : Nat → Int32 → Int32 → Int32 → Int32 → Sg → Prop
  | 0, _, _, _, _, _ => False
  | n + 1, x1, x2, x3, x4, σ => (vp_in x1 6 ∧ (((σ 2 x1.toNatClampNeg) ≤ x4 → Q σ) ∧ (¬ ((σ 2 x1.toNatClampNeg) ≤ x4) → (vp_in ((32 * x1) + (x4 &&& 31)) 192 ∧ ((¬ (σ 15 ((32 * x1) + (x4 &&& 31)).toNatClampNeg) = 0 → ∀ x5_9 : Int32, x5_9 = (x4 - x3) - 1 → ((x4 < x3 → wpX9_report_L129 Q (wpX9_report_L34 Q n) x1 x2 x3 x4 σ) ∧ (¬ (x4 < x3) → ((x5_9 < 0 → wpX9_report_L133 Q (wpX9_report_L34 Q n) x1 x2 x3 x4 σ) ∧ (¬ (x5_9 < 0) → (((8 * (x2 - 2)) ≤ x5_9 → wpX9_report_L133 Q (wpX9_report_L34 Q n) x1 x2 x3 x4 σ) ∧ (¬ ((8 * (x2 - 2)) ≤ x5_9) → (vp_in (((256 * x1) + 2) + (x5_9 / 8)) 1536 ∧ ∀ w14 : Int32, w14 = x5_9 - x5_9 / 8 * 8 → ((¬ (((σ 50 (((256 * x1) + 2) + (x5_9 / 8)).toNatClampNeg) >>> ((7 - w14) &&& 31)) &&& 1) = 1 → wpX9_report_L133 Q (wpX9_report_L34 Q n) x1 x2 x3 x4 σ) ∧ ((((σ 50 (((256 * x1) + 2) + (x5_9 / 8)).toNatClampNeg) >>> ((7 - w14) &&& 31)) &&& 1) = 1 → wpX9_report_L129 Q (wpX9_report_L34 Q n) x1 x2 x3 x4 σ)))))))))) ∧ ((σ 15 ((32 * x1) + (x4 &&& 31)).toNatClampNeg) = 0 → wpX9_report_L148 Q (wpX9_report_L34 Q n) x1 x2 x3 x4 σ))))))
def wpX9_report (x1 : Int32) (x2 : Int32) (σ : Sg) (Q : Sg → Prop) : Prop := (vp_in (256 * x1) 1536 ∧ (vp_in ((256 * x1) + 1) 1536 ∧ ∀ x3_3 : Int32, x3_3 = ((σ 50 (256 * x1).toNatClampNeg) <<< ((8 : Int32) &&& 31)) ||| (σ 50 ((256 * x1) + 1).toNatClampNeg) → wpX9_lowest x1 σ (fun r4 σ4 => ∃ nn, wpX9_report_L34 Q nn x1 x2 x3_3 r4 σ4)))
set_option maxHeartbeats 8000000 in
set_option maxRecDepth 100000 in
theorem tX9_report {l : Launch} {G : GG} {x1 : Int32} {x2 : Int32} {σ : Sg} {Q : Sg → Prop} (h0 : isModel G) (h : wpX9_report x1 x2 σ Q) : Kv l G yX9_report (wB yX9_report prog_11_method_42_code 7 none) ({ frames := 2, cells := 0, slots := 0, locals := 50 }) [.ref (ga G 0), .int x1, .int x2] σ Q := by
  refine K_of (cc := cX9_report) (maxL := 7) (ret := none) (by decide) rfl (Nat.le_of_ble_eq_true rfl) ?_
  intro p e s m args below meth c ls B hH hl
  obtain ⟨hx, hb, hr, hts, hown, hlk, hml, hK, hX⟩ := B
  replace hl : lv_has ls 7 [(0, .ref (ga G 0)), (1, .int x1), (2, .int x2)] := hl
  have hB : ∀ w ∈ BIG, w.before args s = true := fun w h9 => hts w (List.mem_cons_of_mem _ h9)
  clear hts
  have k13 := hB _ bw4_121
  have k53 := hB _ bw4_134
  have k159 := hB _ bw4_169
  have L34 : ∀ (n34 : Nat) (x1 : Int32) (x2 : Int32) (x3 : Int32) (x4 : Int32) (σ : Sg) (H : Heap) (locs : List Loc) (ls : Array Slot), Hx G (aA G s.heap.size) s σ H locs → lv_has ls 7 [(0, .ref (ga G 0)), (1, .int x1), (2, .int x2), (3, .int x3), (4, .int x4)] → wpX9_report_L34 Q n34 x1 x2 x3 x4 σ → W p l e ({ frames := 2, cells := 0, slots := 0, locals := 50 }) s m args below meth c H locs 0 0 (Zv G Q below args s) (F0 m 34 ls []) := by
    intro n34
    induction n34 with
    | zero =>
      intro x1 x2 x3 x4 σ H locs ls hH hl h
      exact False.elim h
    | succ n34 ih34 =>
      have L148 : ∀ (x1 : Int32) (x2 : Int32) (x3 : Int32) (x4 : Int32) (σ : Sg) (H : Heap) (locs : List Loc) (ls : Array Slot), Hx G (aA G s.heap.size) s σ H locs → lv_has ls 7 [(0, .ref (ga G 0)), (1, .int x1), (2, .int x2), (3, .int x3), (4, .int x4)] → wpX9_report_L148 Q (wpX9_report_L34 Q n34) x1 x2 x3 x4 σ → W p l e ({ frames := 2, cells := 0, slots := 0, locals := 50 }) s m args below meth c H locs 0 0 (Zv G Q below args s) (F0 m 148 ls []) := by
        intro x1 x2 x3 x4 σ H locs ls hH hl h
        unfold wpX9_report_L148 at h
        obtain ⟨x4_16, ex4_16⟩ : ∃ y : Int32, y = x4 + 1 := ⟨_, rfl⟩
        replace h := h x4_16 ex4_16
        refine lv_iinc (v := x4_16) (lv' := [(4, .int x4_16), (0, .ref (ga G 0)), (1, .int x1), (2, .int x2), (3, .int x3)]) hx hb dX9_report_148 hl (k := 4) rfl (by rw [ex4_16]; rfl) (by decide) rfl (fun ls hl => ?_)
        refine lv_goto (tgt := 34) hx hb dX9_report_151 (by decide) ?_
        exact ih34 x1 x2 x3 x4_16 σ _ _ ls hH (lv_sub hl [1, 2, 3, 4, 0] rfl) h
      have L134 : ∀ (x1 : Int32) (x2 : Int32) (x3 : Int32) (x4 : Int32) (z0 : Int32) (σ : Sg) (H : Heap) (locs : List Loc) (ls : Array Slot), Hx G (aA G s.heap.size) s σ H locs → lv_has ls 7 [(0, .ref (ga G 0)), (1, .int x1), (2, .int x2), (3, .int x3), (4, .int x4)] → wpX9_report_L134 Q (wpX9_report_L34 Q n34) x1 x2 x3 x4 z0 σ → W p l e ({ frames := 2, cells := 0, slots := 0, locals := 50 }) s m args below meth c H locs 0 0 (Zv G Q below args s) (F0 m 134 ls [.int z0]) := by
        intro x1 x2 x3 x4 z0 σ H locs ls hH hl h
        unfold wpX9_report_L134 at h
        refine lv_istore (lv' := [(6, .int z0), (0, .ref (ga G 0)), (1, .int x1), (2, .int x2), (3, .int x3), (4, .int x4)]) hx hb dX9_report_134 hl (by decide) rfl (fun ls hl => ?_)
        refine lv_iload hx hb dX9_report_136 (lv_at hl 0 rfl) ?_
        refine lv_if_eq (tgt := 148) hx hb dX9_report_138 (by decide) (fun q17 => ?_) (fun q17 => ?_)
        · replace h := h.1 q17
          exact L148 x1 x2 x3 x4 σ _ _ ls hH (lv_sub hl [1, 2, 3, 4, 5] rfl) h
        · replace h := h.2 q17
          refine lv_aload_n hx hb dX9_report_141 rfl (lv_at hl 1 rfl) ?_
          refine lv_iload_n hx hb dX9_report_142 rfl (lv_at hl 2 rfl) ?_
          refine lv_iload hx hb dX9_report_143 (lv_at hl 5 rfl) ?_
          refine g_callVv (As := [.int x1, .int x4]) (rest := []) ⟨hx, hb, hml, hown, hB⟩ hK hX aA_hA hH (c0 := 0) (tX9_confirm h0 h) (cwV 2 hB gVX9_330 rfl rfl rfl (by decide +kernel) ⟨Nat.le_of_ble_eq_true rfl, Nat.le_of_ble_eq_true rfl⟩) h0.1 rfl rfl hl.1 rfl (lv_room (Nat.le_of_ble_eq_true rfl)) ⟨Nat.zero_le _, Nat.zero_le _⟩ dX9_report_145 (fun σ18 H locs h hH => ?_)
          exact L148 x1 x2 x3 x4 σ18 _ _ ls hH (lv_sub hl [1, 2, 3, 4, 5] rfl) h
      have L133 : ∀ (x1 : Int32) (x2 : Int32) (x3 : Int32) (x4 : Int32) (σ : Sg) (H : Heap) (locs : List Loc) (ls : Array Slot), Hx G (aA G s.heap.size) s σ H locs → lv_has ls 7 [(0, .ref (ga G 0)), (1, .int x1), (2, .int x2), (3, .int x3), (4, .int x4)] → wpX9_report_L133 Q (wpX9_report_L34 Q n34) x1 x2 x3 x4 σ → W p l e ({ frames := 2, cells := 0, slots := 0, locals := 50 }) s m args below meth c H locs 0 0 (Zv G Q below args s) (F0 m 133 ls []) := by
        intro x1 x2 x3 x4 σ H locs ls hH hl h
        unfold wpX9_report_L133 at h
        refine lv_iconst (v := 0) hx hb dX9_report_133 (by decide) ?_
        exact L134 x1 x2 x3 x4 0 σ _ _ ls hH (lv_sub hl [0, 1, 2, 3, 4] rfl) h
      have L129 : ∀ (x1 : Int32) (x2 : Int32) (x3 : Int32) (x4 : Int32) (σ : Sg) (H : Heap) (locs : List Loc) (ls : Array Slot), Hx G (aA G s.heap.size) s σ H locs → lv_has ls 7 [(0, .ref (ga G 0)), (1, .int x1), (2, .int x2), (3, .int x3), (4, .int x4)] → wpX9_report_L129 Q (wpX9_report_L34 Q n34) x1 x2 x3 x4 σ → W p l e ({ frames := 2, cells := 0, slots := 0, locals := 50 }) s m args below meth c H locs 0 0 (Zv G Q below args s) (F0 m 129 ls []) := by
        intro x1 x2 x3 x4 σ H locs ls hH hl h
        unfold wpX9_report_L129 at h
        refine lv_iconst (v := 1) hx hb dX9_report_129 (by decide) ?_
        refine lv_goto (tgt := 134) hx hb dX9_report_130 (by decide) ?_
        exact L134 x1 x2 x3 x4 1 σ _ _ ls hH (lv_sub hl [0, 1, 2, 3, 4] rfl) h
      intro x1 x2 x3 x4 σ H locs ls hH hl h
      unfold wpX9_report_L34 at h
      refine lv_iload hx hb dX9_report_34 (lv_at hl 4 rfl) ?_
      refine lv_aload_n hx hb dX9_report_36 rfl (lv_at hl 0 rfl) ?_
      refine g_getr hx hb hB inB9 hown hK hH (c0 := 0) h0.1 rfl 11 (by decide) k13 rfl (c1 := 2) rfl dX9_report_37 ?_
      refine lv_iload_n hx hb dX9_report_40 rfl (lv_at hl 1 rfl) ?_
      obtain ⟨hi5, h⟩ := h
      refine g_iald hx hb hK hH (c0 := 2) (mA2 h0) hi5 dX9_report_41 ?_
      refine lv_icmp_ge (tgt := 154) hx hb dX9_report_42 (by decide) (fun q6 => ?_) (fun q6 => ?_)
      · replace h := h.1 q6
        exact g_vret hx hb hr hK hlk h hH dX9_report_154
      · replace h := h.2 q6
        refine lv_aload_n hx hb dX9_report_45 rfl (lv_at hl 0 rfl) ?_
        refine g_getr hx hb hB inB9 hown hK hH (c0 := 0) h0.1 rfl 24 (by decide) k53 rfl (c1 := 15) rfl dX9_report_46 ?_
        refine lv_bipush (v := 32) hx hb dX9_report_49 (by decide) ?_
        refine lv_iload_n hx hb dX9_report_51 rfl (lv_at hl 1 rfl) ?_
        refine lv_imul hx hb dX9_report_52 ?_
        refine lv_iload hx hb dX9_report_53 (lv_at hl 4 rfl) ?_
        refine lv_bipush (v := 31) hx hb dX9_report_55 (by decide) ?_
        refine lv_iand hx hb dX9_report_57 ?_
        refine lv_iadd hx hb dX9_report_58 ?_
        obtain ⟨hi7, h⟩ := h
        refine g_zald hx hb hK hH (c0 := 15) (mA15 h0) hi7 dX9_report_59 ?_
        refine lv_if_ne (tgt := 66) hx hb dX9_report_60 (by decide) (fun q8 => ?_) (fun q8 => ?_)
        · replace h := h.1 q8
          refine lv_iload hx hb dX9_report_66 (lv_at hl 4 rfl) ?_
          refine lv_iload_n hx hb dX9_report_68 rfl (lv_at hl 3 rfl) ?_
          refine lv_isub hx hb dX9_report_69 ?_
          refine lv_iconst (v := 1) hx hb dX9_report_70 (by decide) ?_
          refine lv_isub hx hb dX9_report_71 ?_
          refine lv_topi (fun x5_9 ex5_9 => ?_)
          replace h := h x5_9 ex5_9
          refine lv_istore (lv' := [(5, .int x5_9), (0, .ref (ga G 0)), (1, .int x1), (2, .int x2), (3, .int x3), (4, .int x4)]) hx hb dX9_report_72 hl (by decide) rfl (fun ls hl => ?_)
          refine lv_iload hx hb dX9_report_74 (lv_at hl 5 rfl) ?_
          refine lv_iload_n hx hb dX9_report_76 rfl (lv_at hl 4 rfl) ?_
          refine lv_icmp_lt (tgt := 129) hx hb dX9_report_77 (by decide) (fun q10 => ?_) (fun q10 => ?_)
          · replace h := h.1 q10
            exact L129 x1 x2 x3 x4 σ _ _ ls hH (lv_sub hl [1, 2, 3, 4, 5] rfl) h
          · replace h := h.2 q10
            refine lv_iload hx hb dX9_report_80 (lv_at hl 0 rfl) ?_
            refine lv_if_lt (tgt := 133) hx hb dX9_report_82 (by decide) (fun q11 => ?_) (fun q11 => ?_)
            · replace h := h.1 q11
              exact L133 x1 x2 x3 x4 σ _ _ ls hH (lv_sub hl [1, 2, 3, 4, 5] rfl) h
            · replace h := h.2 q11
              refine lv_iload hx hb dX9_report_85 (lv_at hl 0 rfl) ?_
              refine lv_bipush (v := 8) hx hb dX9_report_87 (by decide) ?_
              refine lv_iload_n hx hb dX9_report_89 rfl (lv_at hl 3 rfl) ?_
              refine lv_iconst (v := 2) hx hb dX9_report_90 (by decide) ?_
              refine lv_isub hx hb dX9_report_91 ?_
              refine lv_imul hx hb dX9_report_92 ?_
              refine lv_icmp_ge (tgt := 133) hx hb dX9_report_93 (by decide) (fun q12 => ?_) (fun q12 => ?_)
              · replace h := h.1 q12
                exact L133 x1 x2 x3 x4 σ _ _ ls hH (lv_sub hl [1, 2, 3, 4, 5] rfl) h
              · replace h := h.2 q12
                refine lv_aload_n hx hb dX9_report_96 rfl (lv_at hl 1 rfl) ?_
                refine g_getr hx hb hB inB9 hown hK hH (c0 := 0) h0.1 rfl 59 (by decide) k159 rfl (c1 := 50) rfl dX9_report_97 ?_
                refine lv_sipush (v := 256) hx hb dX9_report_100 (by decide) ?_
                refine lv_iload_n hx hb dX9_report_103 rfl (lv_at hl 2 rfl) ?_
                refine lv_imul hx hb dX9_report_104 ?_
                refine lv_iconst (v := 2) hx hb dX9_report_105 (by decide) ?_
                refine lv_iadd hx hb dX9_report_106 ?_
                refine lv_iload hx hb dX9_report_107 (lv_at hl 0 rfl) ?_
                refine lv_bipush (v := 8) hx hb dX9_report_109 (by decide) ?_
                refine lv_idiv hx hb dX9_report_111 (by decide) ?_
                refine lv_iadd hx hb dX9_report_112 ?_
                obtain ⟨hi13, h⟩ := h
                refine g_iald hx hb hK hH (c0 := 50) (mA50 h0) hi13 dX9_report_113 ?_
                refine lv_bipush (v := 7) hx hb dX9_report_114 (by decide) ?_
                refine lv_iload hx hb dX9_report_116 (lv_at hl 0 rfl) ?_
                refine lv_bipush (v := 8) hx hb dX9_report_118 (by decide) ?_
                refine lv_irem hx hb dX9_report_120 (by decide) ?_
                refine lv_topi (fun w14 ew14 => ?_)
                replace h := h w14 ew14
                refine lv_isub hx hb dX9_report_121 ?_
                refine lv_ishr hx hb dX9_report_122 ?_
                refine lv_iconst (v := 1) hx hb dX9_report_123 (by decide) ?_
                refine lv_iand hx hb dX9_report_124 ?_
                refine lv_iconst (v := 1) hx hb dX9_report_125 (by decide) ?_
                refine lv_icmp_ne (tgt := 133) hx hb dX9_report_126 (by decide) (fun q15 => ?_) (fun q15 => ?_)
                · replace h := h.1 q15
                  exact L133 x1 x2 x3 x4 σ _ _ ls hH (lv_sub hl [1, 2, 3, 4, 5] rfl) h
                · replace h := h.2 q15
                  exact L129 x1 x2 x3 x4 σ _ _ ls hH (lv_sub hl [1, 2, 3, 4, 5] rfl) h
        · replace h := h.2 q8
          refine lv_goto (tgt := 148) hx hb dX9_report_63 (by decide) ?_
          exact L148 x1 x2 x3 x4 σ _ _ ls hH (lv_sub hl [0, 1, 2, 3, 4] rfl) h
  unfold wpX9_report at h
  refine lv_aload_n hx hb dX9_report_0 rfl (lv_at hl 0 rfl) ?_
  refine g_getr hx hb hB inB9 hown hK hH (c0 := 0) h0.1 rfl 59 (by decide) k159 rfl (c1 := 50) rfl dX9_report_1 ?_
  refine lv_sipush (v := 256) hx hb dX9_report_4 (by decide) ?_
  refine lv_iload_n hx hb dX9_report_7 rfl (lv_at hl 1 rfl) ?_
  refine lv_imul hx hb dX9_report_8 ?_
  obtain ⟨hi1, h⟩ := h
  refine g_iald hx hb hK hH (c0 := 50) (mA50 h0) hi1 dX9_report_9 ?_
  refine lv_bipush (v := 8) hx hb dX9_report_10 (by decide) ?_
  refine lv_ishl hx hb dX9_report_12 ?_
  refine lv_aload_n hx hb dX9_report_13 rfl (lv_at hl 0 rfl) ?_
  refine g_getr hx hb hB inB9 hown hK hH (c0 := 0) h0.1 rfl 59 (by decide) k159 rfl (c1 := 50) rfl dX9_report_14 ?_
  refine lv_sipush (v := 256) hx hb dX9_report_17 (by decide) ?_
  refine lv_iload_n hx hb dX9_report_20 rfl (lv_at hl 1 rfl) ?_
  refine lv_imul hx hb dX9_report_21 ?_
  refine lv_iconst (v := 1) hx hb dX9_report_22 (by decide) ?_
  refine lv_iadd hx hb dX9_report_23 ?_
  obtain ⟨hi2, h⟩ := h
  refine g_iald hx hb hK hH (c0 := 50) (mA50 h0) hi2 dX9_report_24 ?_
  refine lv_ior hx hb dX9_report_25 ?_
  refine lv_topi (fun x3_3 ex3_3 => ?_)
  replace h := h x3_3 ex3_3
  refine lv_istore_n (lv' := [(3, .int x3_3), (0, .ref (ga G 0)), (1, .int x1), (2, .int x2)]) hx hb dX9_report_26 rfl hl (by decide) rfl (fun ls hl => ?_)
  refine lv_aload_n hx hb dX9_report_27 rfl (lv_at hl 1 rfl) ?_
  refine lv_iload_n hx hb dX9_report_28 rfl (lv_at hl 2 rfl) ?_
  refine g_callVi (As := [.int x1]) (rest := []) ⟨hx, hb, hml, hown, hB⟩ hK hX aA_hA hH (c0 := 0) (tX9_lowest h0 h) (cwV 1 hB gVX9_273 rfl rfl rfl (by decide +kernel) ⟨Nat.le_of_ble_eq_true rfl, Nat.le_of_ble_eq_true rfl⟩) h0.1 rfl rfl hl.1 rfl (lv_room (Nat.le_of_ble_eq_true rfl)) ⟨Nat.zero_le _, Nat.zero_le _⟩ dX9_report_29 (fun r4 σ4 H locs h hH => ?_)
  refine lv_istore (lv' := [(4, .int r4), (3, .int x3_3), (0, .ref (ga G 0)), (1, .int x1), (2, .int x2)]) hx hb dX9_report_32 hl (by decide) rfl (fun ls hl => ?_)
  obtain ⟨nn, h⟩ := h
  exact L34 nn x1 x2 x3_3 r4 σ4 _ _ ls hH (lv_sub hl [2, 3, 4, 1, 0] rfl) h
def wpX9_hand_L179 (Q : Sg → Prop) (K22 : Int32 → Int32 → Int32 → Int32 → Int32 → Sg → Prop) (x1 : Int32) (x2 : Int32) (x4 : Int32) (x5 : Int32) (x6 : Int32) (σ : Sg) : Prop := ∀ x6_25 : Int32, x6_25 = x6 + 1 → K22 x1 x2 x4 x5 x6_25 σ
def wpX9_hand_L63 (Q : Sg → Prop) (K22 : Int32 → Int32 → Int32 → Int32 → Int32 → Sg → Prop) (x1 : Int32) (x2 : Int32) (x4 : Int32) (x5 : Int32) (x6 : Int32) (x7 : Int32) (σ : Sg) : Prop := (vp_in x4 6 ∧ ((¬ (σ 49 x4.toNatClampNeg) = (-1) → (vp_in x4 6 ∧ (vp_in x7 46080 ∧ (vp_in ((256 * x4) + (σ 49 x4.toNatClampNeg)) 1536 ∧ ∀ σ13 : Sg, σ13 = up2 σ 50 (((256 * x4) + (σ 49 x4.toNatClampNeg)).toNatClampNeg) (σ 45 x7.toNatClampNeg) → (vp_in x4 6 ∧ (vp_in x4 6 ∧ ∀ σ15 : Sg, σ15 = up2 σ13 49 x4.toNatClampNeg ((σ13 49 x4.toNatClampNeg) + 1) → (vp_in x7 46080 ∧ ((¬ (σ15 48 x7.toNatClampNeg) = 0 → (vp_in x4 6 ∧ ∀ x8_19 : Int32, x8_19 = σ15 49 x4.toNatClampNeg → (vp_in x4 6 ∧ ∀ σ20 : Sg, σ20 = up2 σ15 49 x4.toNatClampNeg (-1) → (vp_in (256 * x4) 1536 ∧ (((σ20 50 (256 * x4).toNatClampNeg) ≤ 127 → wpX9_report x4 x8_19 σ20 (fun σ23 => wpX9_hand_L179 Q K22 x1 x2 x4 x5 x6 σ23)) ∧ (¬ ((σ20 50 (256 * x4).toNatClampNeg) ≤ 127) → wpX9_unitComes x1 x2 x8_19 σ20 (fun σ24 => wpX9_hand_L179 Q K22 x1 x2 x4 x5 x6 σ24))))))) ∧ ((σ15 48 x7.toNatClampNeg) = 0 → wpX9_hand_L179 Q K22 x1 x2 x4 x5 x6 σ15))))))))) ∧ ((σ 49 x4.toNatClampNeg) = (-1) → wpX9_hand_L179 Q K22 x1 x2 x4 x5 x6 σ)))
def wpX9_hand_L22 (Q : Sg → Prop) : Nat → Int32 → Int32 → Int32 → Int32 → Int32 → Sg → Prop
  | 0, _, _, _, _, _, _ => False
  | n + 1, x1, x2, x4, x5, x6, σ => (vp_in x5 192 ∧ (((σ 44 x5.toNatClampNeg) ≤ x6 → Q σ) ∧ (¬ ((σ 44 x5.toNatClampNeg) ≤ x6) → ∀ x7_5 : Int32, x7_5 = (240 * x5) + x6 → (vp_in x7_5 46080 ∧ (((σ 47 x7_5.toNatClampNeg) = 0 → wpX9_hand_L63 Q (wpX9_hand_L22 Q n) x1 x2 x4 x5 x6 x7_5 σ) ∧ (¬ ((σ 47 x7_5.toNatClampNeg) = 0) → (vp_in x4 6 ∧ ∀ σ8 : Sg, σ8 = up2 σ 49 x4.toNatClampNeg 0 → wpX9_hand_L63 Q (wpX9_hand_L22 Q n) x1 x2 x4 x5 x6 x7_5 σ8)))))))
def wpX9_hand (x1 : Int32) (x2 : Int32) (x3 : Int32) (σ : Sg) (Q : Sg → Prop) : Prop := wpX9_at x1 x2 σ (fun r1 σ1 => ∀ x5_2 : Int32, x5_2 = (32 * r1) + (x3 &&& 31) → ∃ nn, wpX9_hand_L22 Q nn x1 x2 r1 x5_2 0 σ1)
set_option maxHeartbeats 8000000 in
set_option maxRecDepth 100000 in
theorem tX9_hand {l : Launch} {G : GG} {x1 : Int32} {x2 : Int32} {x3 : Int32} {σ : Sg} {Q : Sg → Prop} (h0 : isModel G) (h : wpX9_hand x1 x2 x3 σ Q) : Kv l G yX9_hand (wB yX9_hand prog_11_method_39_code 9 none) ({ frames := 4, cells := 0, slots := 0, locals := 99 }) [.ref (ga G 0), .int x1, .int x2, .int x3] σ Q := by
  refine K_of (cc := cX9_hand) (maxL := 9) (ret := none) (by decide) rfl (Nat.le_of_ble_eq_true rfl) ?_
  intro p e s m args below meth c ls B hH hl
  obtain ⟨hx, hb, hr, hts, hown, hlk, hml, hK, hX⟩ := B
  replace hl : lv_has ls 9 [(0, .ref (ga G 0)), (1, .int x1), (2, .int x2), (3, .int x3)] := hl
  have hB : ∀ w ∈ BIG, w.before args s = true := fun w h9 => hts w (List.mem_cons_of_mem _ h9)
  clear hts
  have k140 := hB _ bw4_163
  have k144 := hB _ bw4_164
  have k150 := hB _ bw4_166
  have k153 := hB _ bw4_167
  have k156 := hB _ bw4_168
  have k159 := hB _ bw4_169
  have L22 : ∀ (n22 : Nat) (x1 : Int32) (x2 : Int32) (x4 : Int32) (x5 : Int32) (x6 : Int32) (σ : Sg) (H : Heap) (locs : List Loc) (ls : Array Slot), Hx G (aA G s.heap.size) s σ H locs → lv_has ls 9 [(0, .ref (ga G 0)), (1, .int x1), (2, .int x2), (4, .int x4), (5, .int x5), (6, .int x6)] → wpX9_hand_L22 Q n22 x1 x2 x4 x5 x6 σ → W p l e ({ frames := 4, cells := 0, slots := 0, locals := 99 }) s m args below meth c H locs 0 0 (Zv G Q below args s) (F0 m 22 ls []) := by
    intro n22
    induction n22 with
    | zero =>
      intro x1 x2 x4 x5 x6 σ H locs ls hH hl h
      exact False.elim h
    | succ n22 ih22 =>
      have L179 : ∀ (x1 : Int32) (x2 : Int32) (x4 : Int32) (x5 : Int32) (x6 : Int32) (σ : Sg) (H : Heap) (locs : List Loc) (ls : Array Slot), Hx G (aA G s.heap.size) s σ H locs → lv_has ls 9 [(0, .ref (ga G 0)), (1, .int x1), (2, .int x2), (4, .int x4), (5, .int x5), (6, .int x6)] → wpX9_hand_L179 Q (wpX9_hand_L22 Q n22) x1 x2 x4 x5 x6 σ → W p l e ({ frames := 4, cells := 0, slots := 0, locals := 99 }) s m args below meth c H locs 0 0 (Zv G Q below args s) (F0 m 179 ls []) := by
        intro x1 x2 x4 x5 x6 σ H locs ls hH hl h
        unfold wpX9_hand_L179 at h
        obtain ⟨x6_25, ex6_25⟩ : ∃ y : Int32, y = x6 + 1 := ⟨_, rfl⟩
        replace h := h x6_25 ex6_25
        refine lv_iinc (v := x6_25) (lv' := [(6, .int x6_25), (0, .ref (ga G 0)), (1, .int x1), (2, .int x2), (4, .int x4), (5, .int x5)]) hx hb dX9_hand_179 hl (k := 5) rfl (by rw [ex6_25]; rfl) (by decide) rfl (fun ls hl => ?_)
        refine lv_goto (tgt := 22) hx hb dX9_hand_182 (by decide) ?_
        exact ih22 x1 x2 x4 x5 x6_25 σ _ _ ls hH (lv_sub hl [1, 2, 3, 4, 5, 0] rfl) h
      have L63 : ∀ (x1 : Int32) (x2 : Int32) (x4 : Int32) (x5 : Int32) (x6 : Int32) (x7 : Int32) (σ : Sg) (H : Heap) (locs : List Loc) (ls : Array Slot), Hx G (aA G s.heap.size) s σ H locs → lv_has ls 9 [(0, .ref (ga G 0)), (1, .int x1), (2, .int x2), (4, .int x4), (5, .int x5), (6, .int x6), (7, .int x7)] → wpX9_hand_L63 Q (wpX9_hand_L22 Q n22) x1 x2 x4 x5 x6 x7 σ → W p l e ({ frames := 4, cells := 0, slots := 0, locals := 99 }) s m args below meth c H locs 0 0 (Zv G Q below args s) (F0 m 63 ls []) := by
        intro x1 x2 x4 x5 x6 x7 σ H locs ls hH hl h
        unfold wpX9_hand_L63 at h
        refine lv_aload_n hx hb dX9_hand_63 rfl (lv_at hl 0 rfl) ?_
        refine g_getr hx hb hB inB9 hown hK hH (c0 := 0) h0.1 rfl 58 (by decide) k156 rfl (c1 := 49) rfl dX9_hand_64 ?_
        refine lv_iload hx hb dX9_hand_67 (lv_at hl 3 rfl) ?_
        obtain ⟨hi9, h⟩ := h
        refine g_iald hx hb hK hH (c0 := 49) (mA49 h0) hi9 dX9_hand_69 ?_
        refine lv_iconst (v := (-1)) hx hb dX9_hand_70 (by decide) ?_
        refine lv_icmp_ne (tgt := 77) hx hb dX9_hand_71 (by decide) (fun q10 => ?_) (fun q10 => ?_)
        · replace h := h.1 q10
          refine lv_aload_n hx hb dX9_hand_77 rfl (lv_at hl 0 rfl) ?_
          refine g_getr hx hb hB inB9 hown hK hH (c0 := 0) h0.1 rfl 59 (by decide) k159 rfl (c1 := 50) rfl dX9_hand_78 ?_
          refine lv_sipush (v := 256) hx hb dX9_hand_81 (by decide) ?_
          refine lv_iload hx hb dX9_hand_84 (lv_at hl 3 rfl) ?_
          refine lv_imul hx hb dX9_hand_86 ?_
          refine lv_aload_n hx hb dX9_hand_87 rfl (lv_at hl 0 rfl) ?_
          refine g_getr hx hb hB inB9 hown hK hH (c0 := 0) h0.1 rfl 58 (by decide) k156 rfl (c1 := 49) rfl dX9_hand_88 ?_
          refine lv_iload hx hb dX9_hand_91 (lv_at hl 3 rfl) ?_
          obtain ⟨hi11, h⟩ := h
          refine g_iald hx hb hK hH (c0 := 49) (mA49 h0) hi11 dX9_hand_93 ?_
          refine lv_iadd hx hb dX9_hand_94 ?_
          refine lv_aload_n hx hb dX9_hand_95 rfl (lv_at hl 0 rfl) ?_
          refine g_getr hx hb hB inB9 hown hK hH (c0 := 0) h0.1 rfl 54 (by decide) k144 rfl (c1 := 45) rfl dX9_hand_96 ?_
          refine lv_iload hx hb dX9_hand_99 (lv_at hl 6 rfl) ?_
          obtain ⟨hi12, h⟩ := h
          refine g_iald hx hb hK hH (c0 := 45) (mA45 h0) hi12 dX9_hand_101 ?_
          obtain ⟨hi13, h⟩ := h
          refine g_iast hx hb hK hH (c0 := 50) (i := (256 * x4) + (σ 49 x4.toNatClampNeg)) (mA50 h0) hi13 dX9_hand_102 (fun σ13 eσ13 H locs hH => ?_)
          replace h := h σ13 eσ13
          refine lv_aload_n hx hb dX9_hand_103 rfl (lv_at hl 0 rfl) ?_
          refine g_getr hx hb hB inB9 hown hK hH (c0 := 0) h0.1 rfl 58 (by decide) k156 rfl (c1 := 49) rfl dX9_hand_104 ?_
          refine lv_iload hx hb dX9_hand_107 (lv_at hl 3 rfl) ?_
          refine lv_dup2_11 hx hb dX9_hand_109 rfl rfl ?_
          obtain ⟨hi14, h⟩ := h
          refine g_iald hx hb hK hH (c0 := 49) (mA49 h0) hi14 dX9_hand_110 ?_
          refine lv_iconst (v := 1) hx hb dX9_hand_111 (by decide) ?_
          refine lv_iadd hx hb dX9_hand_112 ?_
          obtain ⟨hi15, h⟩ := h
          refine g_iast hx hb hK hH (c0 := 49) (i := x4) (mA49 h0) hi15 dX9_hand_113 (fun σ15 eσ15 H locs hH => ?_)
          replace h := h σ15 eσ15
          refine lv_aload_n hx hb dX9_hand_114 rfl (lv_at hl 0 rfl) ?_
          refine g_getr hx hb hB inB9 hown hK hH (c0 := 0) h0.1 rfl 57 (by decide) k153 rfl (c1 := 48) rfl dX9_hand_115 ?_
          refine lv_iload hx hb dX9_hand_118 (lv_at hl 6 rfl) ?_
          obtain ⟨hi16, h⟩ := h
          refine g_zald hx hb hK hH (c0 := 48) (mA48 h0) hi16 dX9_hand_120 ?_
          refine lv_if_ne (tgt := 127) hx hb dX9_hand_121 (by decide) (fun q17 => ?_) (fun q17 => ?_)
          · replace h := h.1 q17
            refine lv_aload_n hx hb dX9_hand_127 rfl (lv_at hl 0 rfl) ?_
            refine g_getr hx hb hB inB9 hown hK hH (c0 := 0) h0.1 rfl 58 (by decide) k156 rfl (c1 := 49) rfl dX9_hand_128 ?_
            refine lv_iload hx hb dX9_hand_131 (lv_at hl 3 rfl) ?_
            obtain ⟨hi18, h⟩ := h
            refine g_iald hx hb hK hH (c0 := 49) (mA49 h0) hi18 dX9_hand_133 ?_
            refine lv_topi (fun x8_19 ex8_19 => ?_)
            replace h := h x8_19 ex8_19
            refine lv_istore (lv' := [(8, .int x8_19), (0, .ref (ga G 0)), (1, .int x1), (2, .int x2), (4, .int x4), (5, .int x5), (6, .int x6), (7, .int x7)]) hx hb dX9_hand_134 hl (by decide) rfl (fun ls hl => ?_)
            refine lv_aload_n hx hb dX9_hand_136 rfl (lv_at hl 1 rfl) ?_
            refine g_getr hx hb hB inB9 hown hK hH (c0 := 0) h0.1 rfl 58 (by decide) k156 rfl (c1 := 49) rfl dX9_hand_137 ?_
            refine lv_iload hx hb dX9_hand_140 (lv_at hl 4 rfl) ?_
            refine lv_iconst (v := (-1)) hx hb dX9_hand_142 (by decide) ?_
            obtain ⟨hi20, h⟩ := h
            refine g_iast hx hb hK hH (c0 := 49) (i := x4) (mA49 h0) hi20 dX9_hand_143 (fun σ20 eσ20 H locs hH => ?_)
            replace h := h σ20 eσ20
            refine lv_aload_n hx hb dX9_hand_144 rfl (lv_at hl 1 rfl) ?_
            refine g_getr hx hb hB inB9 hown hK hH (c0 := 0) h0.1 rfl 59 (by decide) k159 rfl (c1 := 50) rfl dX9_hand_145 ?_
            refine lv_sipush (v := 256) hx hb dX9_hand_148 (by decide) ?_
            refine lv_iload hx hb dX9_hand_151 (lv_at hl 4 rfl) ?_
            refine lv_imul hx hb dX9_hand_153 ?_
            obtain ⟨hi21, h⟩ := h
            refine g_iald hx hb hK hH (c0 := 50) (mA50 h0) hi21 dX9_hand_154 ?_
            refine lv_bipush (v := 127) hx hb dX9_hand_155 (by decide) ?_
            refine lv_icmp_le (tgt := 171) hx hb dX9_hand_157 (by decide) (fun q22 => ?_) (fun q22 => ?_)
            · replace h := h.1 q22
              refine lv_aload_n hx hb dX9_hand_171 rfl (lv_at hl 1 rfl) ?_
              refine lv_iload hx hb dX9_hand_172 (lv_at hl 4 rfl) ?_
              refine lv_iload hx hb dX9_hand_174 (lv_at hl 0 rfl) ?_
              refine g_callVv (As := [.int x4, .int x8_19]) (rest := []) ⟨hx, hb, hml, hown, hB⟩ hK hX aA_hA hH (c0 := 0) (tX9_report h0 h) (cwV 2 hB gVX9_353 rfl rfl rfl (by decide +kernel) ⟨Nat.le_of_ble_eq_true rfl, Nat.le_of_ble_eq_true rfl⟩) h0.1 rfl rfl hl.1 rfl (lv_room (Nat.le_of_ble_eq_true rfl)) ⟨Nat.zero_le _, Nat.zero_le _⟩ dX9_hand_176 (fun σ23 H locs h hH => ?_)
              exact L179 x1 x2 x4 x5 x6 σ23 _ _ ls hH (lv_sub hl [1, 2, 3, 4, 5, 6] rfl) h
            · replace h := h.2 q22
              refine lv_aload_n hx hb dX9_hand_160 rfl (lv_at hl 1 rfl) ?_
              refine lv_iload_n hx hb dX9_hand_161 rfl (lv_at hl 2 rfl) ?_
              refine lv_iload_n hx hb dX9_hand_162 rfl (lv_at hl 3 rfl) ?_
              refine lv_iload hx hb dX9_hand_163 (lv_at hl 0 rfl) ?_
              refine g_callVv (As := [.int x1, .int x2, .int x8_19]) (rest := []) ⟨hx, hb, hml, hown, hB⟩ hK hX aA_hA hH (c0 := 0) (tX9_unitComes h0 h) (cwV 3 hB gVX9_350 rfl rfl rfl (by decide +kernel) ⟨Nat.le_of_ble_eq_true rfl, Nat.le_of_ble_eq_true rfl⟩) h0.1 rfl rfl hl.1 rfl (lv_room (Nat.le_of_ble_eq_true rfl)) ⟨Nat.zero_le _, Nat.zero_le _⟩ dX9_hand_165 (fun σ24 H locs h hH => ?_)
              refine lv_goto (tgt := 179) hx hb dX9_hand_168 (by decide) ?_
              exact L179 x1 x2 x4 x5 x6 σ24 _ _ ls hH (lv_sub hl [1, 2, 3, 4, 5, 6] rfl) h
          · replace h := h.2 q17
            refine lv_goto (tgt := 179) hx hb dX9_hand_124 (by decide) ?_
            exact L179 x1 x2 x4 x5 x6 σ15 _ _ ls hH (lv_sub hl [0, 1, 2, 3, 4, 5] rfl) h
        · replace h := h.2 q10
          refine lv_goto (tgt := 179) hx hb dX9_hand_74 (by decide) ?_
          exact L179 x1 x2 x4 x5 x6 σ _ _ ls hH (lv_sub hl [0, 1, 2, 3, 4, 5] rfl) h
      intro x1 x2 x4 x5 x6 σ H locs ls hH hl h
      unfold wpX9_hand_L22 at h
      refine lv_iload hx hb dX9_hand_22 (lv_at hl 5 rfl) ?_
      refine lv_aload_n hx hb dX9_hand_24 rfl (lv_at hl 0 rfl) ?_
      refine g_getr hx hb hB inB9 hown hK hH (c0 := 0) h0.1 rfl 53 (by decide) k140 rfl (c1 := 44) rfl dX9_hand_25 ?_
      refine lv_iload hx hb dX9_hand_28 (lv_at hl 4 rfl) ?_
      obtain ⟨hi3, h⟩ := h
      refine g_iald hx hb hK hH (c0 := 44) (mA44 h0) hi3 dX9_hand_30 ?_
      refine lv_icmp_ge (tgt := 185) hx hb dX9_hand_31 (by decide) (fun q4 => ?_) (fun q4 => ?_)
      · replace h := h.1 q4
        exact g_vret hx hb hr hK hlk h hH dX9_hand_185
      · replace h := h.2 q4
        refine lv_sipush (v := 240) hx hb dX9_hand_34 (by decide) ?_
        refine lv_iload hx hb dX9_hand_37 (lv_at hl 4 rfl) ?_
        refine lv_imul hx hb dX9_hand_39 ?_
        refine lv_iload hx hb dX9_hand_40 (lv_at hl 5 rfl) ?_
        refine lv_iadd hx hb dX9_hand_42 ?_
        refine lv_topi (fun x7_5 ex7_5 => ?_)
        replace h := h x7_5 ex7_5
        refine lv_istore (lv' := [(7, .int x7_5), (0, .ref (ga G 0)), (1, .int x1), (2, .int x2), (4, .int x4), (5, .int x5), (6, .int x6)]) hx hb dX9_hand_43 hl (by decide) rfl (fun ls hl => ?_)
        refine lv_aload_n hx hb dX9_hand_45 rfl (lv_at hl 1 rfl) ?_
        refine g_getr hx hb hB inB9 hown hK hH (c0 := 0) h0.1 rfl 56 (by decide) k150 rfl (c1 := 47) rfl dX9_hand_46 ?_
        refine lv_iload hx hb dX9_hand_49 (lv_at hl 0 rfl) ?_
        obtain ⟨hi6, h⟩ := h
        refine g_zald hx hb hK hH (c0 := 47) (mA47 h0) hi6 dX9_hand_51 ?_
        refine lv_if_eq (tgt := 63) hx hb dX9_hand_52 (by decide) (fun q7 => ?_) (fun q7 => ?_)
        · replace h := h.1 q7
          exact L63 x1 x2 x4 x5 x6 x7_5 σ _ _ ls hH (lv_sub hl [1, 2, 3, 4, 5, 6, 0] rfl) h
        · replace h := h.2 q7
          refine lv_aload_n hx hb dX9_hand_55 rfl (lv_at hl 1 rfl) ?_
          refine g_getr hx hb hB inB9 hown hK hH (c0 := 0) h0.1 rfl 58 (by decide) k156 rfl (c1 := 49) rfl dX9_hand_56 ?_
          refine lv_iload hx hb dX9_hand_59 (lv_at hl 4 rfl) ?_
          refine lv_iconst (v := 0) hx hb dX9_hand_61 (by decide) ?_
          obtain ⟨hi8, h⟩ := h
          refine g_iast hx hb hK hH (c0 := 49) (i := x4) (mA49 h0) hi8 dX9_hand_62 (fun σ8 eσ8 H locs hH => ?_)
          replace h := h σ8 eσ8
          exact L63 x1 x2 x4 x5 x6 x7_5 σ8 _ _ ls hH (lv_sub hl [1, 2, 3, 4, 5, 6, 0] rfl) h
  unfold wpX9_hand at h
  refine lv_iload_n hx hb dX9_hand_0 rfl (lv_at hl 1 rfl) ?_
  refine lv_iload_n hx hb dX9_hand_1 rfl (lv_at hl 2 rfl) ?_
  refine g_callSi (As := [.int x1, .int x2]) (rest := []) ⟨hx, hb, hml, hown, hB⟩ hK hX aA_hA hH (tX9_at h) (va_cwS 2 hB gSX9_258 rfl rfl rfl (by decide +kernel) ⟨Nat.le_of_ble_eq_true rfl, Nat.le_of_ble_eq_true rfl⟩) rfl hl.1 rfl (lv_room (Nat.le_of_ble_eq_true rfl)) ⟨Nat.zero_le _, Nat.zero_le _⟩ dX9_hand_2 (fun r1 σ1 H locs h hH => ?_)
  refine lv_istore (lv' := [(4, .int r1), (0, .ref (ga G 0)), (1, .int x1), (2, .int x2), (3, .int x3)]) hx hb dX9_hand_5 hl (by decide) rfl (fun ls hl => ?_)
  refine lv_bipush (v := 32) hx hb dX9_hand_7 (by decide) ?_
  refine lv_iload hx hb dX9_hand_9 (lv_at hl 0 rfl) ?_
  refine lv_imul hx hb dX9_hand_11 ?_
  refine lv_iload_n hx hb dX9_hand_12 rfl (lv_at hl 4 rfl) ?_
  refine lv_bipush (v := 31) hx hb dX9_hand_13 (by decide) ?_
  refine lv_iand hx hb dX9_hand_15 ?_
  refine lv_iadd hx hb dX9_hand_16 ?_
  refine lv_topi (fun x5_2 ex5_2 => ?_)
  replace h := h x5_2 ex5_2
  refine lv_istore (lv' := [(5, .int x5_2), (4, .int r1), (0, .ref (ga G 0)), (1, .int x1), (2, .int x2), (3, .int x3)]) hx hb dX9_hand_17 hl (by decide) rfl (fun ls hl => ?_)
  refine lv_iconst (v := 0) hx hb dX9_hand_19 (by decide) ?_
  refine lv_istore (lv' := [(6, .int 0), (5, .int x5_2), (4, .int r1), (0, .ref (ga G 0)), (1, .int x1), (2, .int x2), (3, .int x3)]) hx hb dX9_hand_20 hl (by decide) rfl (fun ls hl => ?_)
  obtain ⟨nn, h⟩ := h
  exact L22 nn x1 x2 r1 x5_2 0 σ1 _ _ ls hH (lv_sub hl [3, 4, 5, 2, 1, 0] rfl) h
def wpX9_clear_L20 (Q : Sg → Prop) : Nat → Int32 → Int32 → Sg → Prop
  | 0, _, _, _ => False
  | n + 1, x3, x4, σ => ((240 ≤ x4 → Q σ) ∧ (¬ (240 ≤ x4) → (vp_in ((240 * x3) + x4) 46080 ∧ ∀ σ4 : Sg, σ4 = up2 σ 46 (((240 * x3) + x4).toNatClampNeg) 0 → (vp_in ((240 * x3) + x4) 46080 ∧ ∀ σ5 : Sg, σ5 = up2 σ4 47 (((240 * x3) + x4).toNatClampNeg) 0 → (vp_in ((240 * x3) + x4) 46080 ∧ ∀ σ6 : Sg, σ6 = up2 σ5 48 (((240 * x3) + x4).toNatClampNeg) 0 → ∀ x4_7 : Int32, x4_7 = x4 + 1 → (wpX9_clear_L20 Q n) x3 x4_7 σ6)))))
def wpX9_clear (x1 : Int32) (x2 : Int32) (σ : Sg) (Q : Sg → Prop) : Prop := ∀ x3_1 : Int32, x3_1 = (32 * x1) + (x2 &&& 31) → (vp_in x3_1 192 ∧ ∀ σ2 : Sg, σ2 = up2 σ 44 x3_1.toNatClampNeg (-1) → ∃ nn, wpX9_clear_L20 Q nn x3_1 0 σ2)
set_option maxHeartbeats 8000000 in
set_option maxRecDepth 100000 in
theorem tX9_clear {l : Launch} {G : GG} {x1 : Int32} {x2 : Int32} {σ : Sg} {Q : Sg → Prop} (h0 : isModel G) (h : wpX9_clear x1 x2 σ Q) : Kv l G yX9_clear (wB yX9_clear prog_11_method_38_code 5 none) ({ frames := 0, cells := 0, slots := 0, locals := 0 }) [.ref (ga G 0), .int x1, .int x2] σ Q := by
  refine K_of (cc := cX9_clear) (maxL := 5) (ret := none) (by decide) rfl (Nat.le_of_ble_eq_true rfl) ?_
  intro p e s m args below meth c ls B hH hl
  obtain ⟨hx, hb, hr, hts, hown, hlk, hml, hK, hX⟩ := B
  replace hl : lv_has ls 5 [(0, .ref (ga G 0)), (1, .int x1), (2, .int x2)] := hl
  have hB : ∀ w ∈ BIG, w.before args s = true := fun w h9 => hts w (List.mem_cons_of_mem _ h9)
  clear hts
  have k140 := hB _ bw4_163
  have k147 := hB _ bw4_165
  have k150 := hB _ bw4_166
  have k153 := hB _ bw4_167
  have L20 : ∀ (n20 : Nat) (x3 : Int32) (x4 : Int32) (σ : Sg) (H : Heap) (locs : List Loc) (ls : Array Slot), Hx G (aA G s.heap.size) s σ H locs → lv_has ls 5 [(0, .ref (ga G 0)), (3, .int x3), (4, .int x4)] → wpX9_clear_L20 Q n20 x3 x4 σ → W p l e ({ frames := 0, cells := 0, slots := 0, locals := 0 }) s m args below meth c H locs 0 0 (Zv G Q below args s) (F0 m 20 ls []) := by
    intro n20
    induction n20 with
    | zero =>
      intro x3 x4 σ H locs ls hH hl h
      exact False.elim h
    | succ n20 ih20 =>
      intro x3 x4 σ H locs ls hH hl h
      unfold wpX9_clear_L20 at h
      refine lv_iload hx hb dX9_clear_20 (lv_at hl 2 rfl) ?_
      refine lv_sipush (v := 240) hx hb dX9_clear_22 (by decide) ?_
      refine lv_icmp_ge (tgt := 76) hx hb dX9_clear_25 (by decide) (fun q3 => ?_) (fun q3 => ?_)
      · replace h := h.1 q3
        exact g_vret hx hb hr hK hlk h hH dX9_clear_76
      · replace h := h.2 q3
        refine lv_aload_n hx hb dX9_clear_28 rfl (lv_at hl 0 rfl) ?_
        refine g_getr hx hb hB inB9 hown hK hH (c0 := 0) h0.1 rfl 55 (by decide) k147 rfl (c1 := 46) rfl dX9_clear_29 ?_
        refine lv_sipush (v := 240) hx hb dX9_clear_32 (by decide) ?_
        refine lv_iload_n hx hb dX9_clear_35 rfl (lv_at hl 1 rfl) ?_
        refine lv_imul hx hb dX9_clear_36 ?_
        refine lv_iload hx hb dX9_clear_37 (lv_at hl 2 rfl) ?_
        refine lv_iadd hx hb dX9_clear_39 ?_
        refine lv_iconst (v := 0) hx hb dX9_clear_40 (by decide) ?_
        obtain ⟨hi4, h⟩ := h
        refine g_zast hx hb hK hH (c0 := 46) (i := (240 * x3) + x4) (mA46 h0) vz0 hi4 dX9_clear_41 (fun σ4 eσ4 H locs hH => ?_)
        replace h := h σ4 eσ4
        refine lv_aload_n hx hb dX9_clear_42 rfl (lv_at hl 0 rfl) ?_
        refine g_getr hx hb hB inB9 hown hK hH (c0 := 0) h0.1 rfl 56 (by decide) k150 rfl (c1 := 47) rfl dX9_clear_43 ?_
        refine lv_sipush (v := 240) hx hb dX9_clear_46 (by decide) ?_
        refine lv_iload_n hx hb dX9_clear_49 rfl (lv_at hl 1 rfl) ?_
        refine lv_imul hx hb dX9_clear_50 ?_
        refine lv_iload hx hb dX9_clear_51 (lv_at hl 2 rfl) ?_
        refine lv_iadd hx hb dX9_clear_53 ?_
        refine lv_iconst (v := 0) hx hb dX9_clear_54 (by decide) ?_
        obtain ⟨hi5, h⟩ := h
        refine g_zast hx hb hK hH (c0 := 47) (i := (240 * x3) + x4) (mA47 h0) vz0 hi5 dX9_clear_55 (fun σ5 eσ5 H locs hH => ?_)
        replace h := h σ5 eσ5
        refine lv_aload_n hx hb dX9_clear_56 rfl (lv_at hl 0 rfl) ?_
        refine g_getr hx hb hB inB9 hown hK hH (c0 := 0) h0.1 rfl 57 (by decide) k153 rfl (c1 := 48) rfl dX9_clear_57 ?_
        refine lv_sipush (v := 240) hx hb dX9_clear_60 (by decide) ?_
        refine lv_iload_n hx hb dX9_clear_63 rfl (lv_at hl 1 rfl) ?_
        refine lv_imul hx hb dX9_clear_64 ?_
        refine lv_iload hx hb dX9_clear_65 (lv_at hl 2 rfl) ?_
        refine lv_iadd hx hb dX9_clear_67 ?_
        refine lv_iconst (v := 0) hx hb dX9_clear_68 (by decide) ?_
        obtain ⟨hi6, h⟩ := h
        refine g_zast hx hb hK hH (c0 := 48) (i := (240 * x3) + x4) (mA48 h0) vz0 hi6 dX9_clear_69 (fun σ6 eσ6 H locs hH => ?_)
        replace h := h σ6 eσ6
        obtain ⟨x4_7, ex4_7⟩ : ∃ y : Int32, y = x4 + 1 := ⟨_, rfl⟩
        replace h := h x4_7 ex4_7
        refine lv_iinc (v := x4_7) (lv' := [(4, .int x4_7), (0, .ref (ga G 0)), (3, .int x3)]) hx hb dX9_clear_70 hl (k := 2) rfl (by rw [ex4_7]; rfl) (by decide) rfl (fun ls hl => ?_)
        refine lv_goto (tgt := 20) hx hb dX9_clear_73 (by decide) ?_
        exact ih20 x3 x4_7 σ6 _ _ ls hH (lv_sub hl [1, 2, 0] rfl) h
  unfold wpX9_clear at h
  refine lv_bipush (v := 32) hx hb dX9_clear_0 (by decide) ?_
  refine lv_iload_n hx hb dX9_clear_2 rfl (lv_at hl 1 rfl) ?_
  refine lv_imul hx hb dX9_clear_3 ?_
  refine lv_iload_n hx hb dX9_clear_4 rfl (lv_at hl 2 rfl) ?_
  refine lv_bipush (v := 31) hx hb dX9_clear_5 (by decide) ?_
  refine lv_iand hx hb dX9_clear_7 ?_
  refine lv_iadd hx hb dX9_clear_8 ?_
  refine lv_topi (fun x3_1 ex3_1 => ?_)
  replace h := h x3_1 ex3_1
  refine lv_istore_n (lv' := [(3, .int x3_1), (0, .ref (ga G 0)), (1, .int x1), (2, .int x2)]) hx hb dX9_clear_9 rfl hl (by decide) rfl (fun ls hl => ?_)
  refine lv_aload_n hx hb dX9_clear_10 rfl (lv_at hl 1 rfl) ?_
  refine g_getr hx hb hB inB9 hown hK hH (c0 := 0) h0.1 rfl 53 (by decide) k140 rfl (c1 := 44) rfl dX9_clear_11 ?_
  refine lv_iload_n hx hb dX9_clear_14 rfl (lv_at hl 0 rfl) ?_
  refine lv_iconst (v := (-1)) hx hb dX9_clear_15 (by decide) ?_
  obtain ⟨hi2, h⟩ := h
  refine g_iast hx hb hK hH (c0 := 44) (i := x3_1) (mA44 h0) hi2 dX9_clear_16 (fun σ2 eσ2 H locs hH => ?_)
  replace h := h σ2 eσ2
  refine lv_iconst (v := 0) hx hb dX9_clear_17 (by decide) ?_
  refine lv_istore (lv' := [(4, .int 0), (3, .int x3_1), (0, .ref (ga G 0)), (1, .int x1), (2, .int x2)]) hx hb dX9_clear_18 hl (by decide) rfl (fun ls hl => ?_)
  obtain ⟨nn, h⟩ := h
  exact L20 nn x3_1 0 σ2 _ _ ls hH (lv_sub hl [2, 1, 0] rfl) h

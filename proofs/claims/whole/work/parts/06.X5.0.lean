def wpX5_clear (c0 : Nat) (x1 : Int32) (σ : Sg) (Q : Sg → Prop) : Prop := wpJ7_fill_53178 240 (c0 + 1) 0 σ (fun σ1 => ∀ σ2 : Sg, σ2 = up2 σ1 c0 1 x1 → ∀ σ3 : Sg, σ3 = up2 σ2 c0 2 0 → ∀ σ4 : Sg, σ4 = up2 σ3 c0 3 0 → ∀ σ5 : Sg, σ5 = up2 σ4 c0 4 0 → ∀ σ6 : Sg, σ6 = up2 σ5 c0 5 0 → Q σ6)
set_option maxHeartbeats 8000000 in
set_option maxRecDepth 100000 in
theorem tX5_clear {l : Launch} {G : GG} {c0 : Nat} {x1 : Int32} {σ : Sg} {Q : Sg → Prop} (hc0 : isPiece G c0) (h : wpX5_clear c0 x1 σ Q) : Kv l G yX5_clear (wB yX5_clear prog_7_method_2_code 2 none) ({ frames := 1, cells := 0, slots := 0, locals := 23 }) [.ref (ga G c0), .int x1] σ Q := by
  refine K_of (cc := cX5_clear) (maxL := 2) (ret := none) (by decide) rfl (Nat.le_of_ble_eq_true rfl) ?_
  intro p e s m args below meth c ls B hH hl
  obtain ⟨hx, hb, hr, hts, hown, hlk, hml, hK, hX⟩ := B
  replace hl : lv_has ls 2 [(0, .ref (ga G c0)), (1, .int x1)] := hl
  have hB : ∀ w ∈ BIG, w.before args s = true := fun w h9 => hts w (List.mem_cons_of_mem _ h9)
  clear hts
  have k9 := hB _ bw1_118
  have k21 := hB _ bw1_120
  have k25 := hB _ bw1_123
  have k28 := hB _ bw1_126
  have k31 := hB _ bw1_128
  have k35 := hB _ bw1_130
  unfold wpX5_clear at h
  refine lv_aload_n hx hb dX5_clear_0 rfl (lv_at hl 0 rfl) ?_
  refine g_getr hx hb hB inB5 hown hK hH (c0 := c0) hc0.1 rfl 0 (by decide) k9 rfl (c1 := c0 + 1) rfl dX5_clear_1 ?_
  refine lv_iconst (v := 0) hx hb dX5_clear_4 (by decide) ?_
  refine g_callSv (As := [.ref (ga G (c0 + 1)), .int 0]) (rest := []) ⟨hx, hb, hml, hown, hB⟩ hK hX aA_hA hH (tJ7_fill_53178 hc0.2 h) (va_cwS 2 hB gSX5_15 rfl rfl rfl (by decide +kernel) ⟨Nat.le_of_ble_eq_true rfl, Nat.le_of_ble_eq_true rfl⟩) rfl hl.1 rfl (lv_room (Nat.le_of_ble_eq_true rfl)) ⟨Nat.zero_le _, Nat.zero_le _⟩ dX5_clear_5 (fun σ1 H locs h hH => ?_)
  refine lv_aload_n hx hb dX5_clear_8 rfl (lv_at hl 0 rfl) ?_
  refine lv_iload_n hx hb dX5_clear_9 rfl (lv_at hl 1 rfl) ?_
  refine g_put hx hb hB inB5 tyX5 tyX5_ok nmX5 hown hK hH (c0 := c0) hc0.1 rfl 1 (by decide) k21 rfl rfl rfl rfl rfl dX5_clear_10 (fun σ2 eσ2 H locs hH => ?_)
  replace h := h σ2 eσ2
  refine lv_aload_n hx hb dX5_clear_13 rfl (lv_at hl 0 rfl) ?_
  refine lv_iconst (v := 0) hx hb dX5_clear_14 (by decide) ?_
  refine g_put hx hb hB inB5 tyX5 tyX5_ok nmX5 hown hK hH (c0 := c0) hc0.1 rfl 2 (by decide) k25 rfl rfl rfl rfl rfl dX5_clear_15 (fun σ3 eσ3 H locs hH => ?_)
  replace h := h σ3 eσ3
  refine lv_aload_n hx hb dX5_clear_18 rfl (lv_at hl 0 rfl) ?_
  refine lv_iconst (v := 0) hx hb dX5_clear_19 (by decide) ?_
  refine g_put hx hb hB inB5 tyX5 tyX5_ok nmX5 hown hK hH (c0 := c0) hc0.1 rfl 3 (by decide) k28 rfl rfl rfl rfl rfl dX5_clear_20 (fun σ4 eσ4 H locs hH => ?_)
  replace h := h σ4 eσ4
  refine lv_aload_n hx hb dX5_clear_23 rfl (lv_at hl 0 rfl) ?_
  refine lv_iconst (v := 0) hx hb dX5_clear_24 (by decide) ?_
  refine g_put hx hb hB inB5 tyX5 tyX5_ok nmX5 hown hK hH (c0 := c0) hc0.1 rfl 4 (by decide) k31 rfl rfl rfl (vz_n vz0) (vz_f vz0) dX5_clear_25 (fun σ5 eσ5 H locs hH => ?_)
  replace h := h σ5 eσ5
  refine lv_aload_n hx hb dX5_clear_28 rfl (lv_at hl 0 rfl) ?_
  refine lv_iconst (v := 0) hx hb dX5_clear_29 (by decide) ?_
  refine g_put hx hb hB inB5 tyX5 tyX5_ok nmX5 hown hK hH (c0 := c0) hc0.1 rfl 5 (by decide) k35 rfl rfl rfl (vz_n vz0) (vz_f vz0) dX5_clear_30 (fun σ6 eσ6 H locs hH => ?_)
  replace h := h σ6 eσ6
  exact g_vret hx hb hr hK hlk h hH dX5_clear_33
def wpX5_cell (c0 : Nat) (x1 : Int32) (σ : Sg) (Q : Int32 → Sg → Prop) : Prop := ((x1 < 0 → Q 0 σ) ∧ (¬ (x1 < 0) → (((nI 240) ≤ x1 → Q 0 σ) ∧ (¬ ((nI 240) ≤ x1) → (vp_in x1 240 ∧ Q (σ (c0 + 1) x1.toNatClampNeg) σ)))))
set_option maxHeartbeats 8000000 in
set_option maxRecDepth 100000 in
theorem tX5_cell {l : Launch} {G : GG} {c0 : Nat} {x1 : Int32} {σ : Sg} {Q : Int32 → Sg → Prop} (hc0 : isPiece G c0) (h : wpX5_cell c0 x1 σ Q) : Ki l G yX5_cell (wB yX5_cell prog_7_method_3_code 2 (Option.some FieldType.int)) ({ frames := 0, cells := 0, slots := 0, locals := 0 }) [.ref (ga G c0), .int x1] σ Q := by
  refine K_of (cc := cX5_cell) (maxL := 2) (ret := (some .int)) (by decide) rfl (Nat.le_of_ble_eq_true rfl) ?_
  intro p e s m args below meth c ls B hH hl
  obtain ⟨hx, hb, hr, hts, hown, hlk, hml, hK, hX⟩ := B
  replace hl : lv_has ls 2 [(0, .ref (ga G c0)), (1, .int x1)] := hl
  have hB : ∀ w ∈ BIG, w.before args s = true := fun w h9 => hts w (List.mem_cons_of_mem _ h9)
  clear hts
  have k9 := hB _ bw1_118
  unfold wpX5_cell at h
  refine lv_iload_n hx hb dX5_cell_0 rfl (lv_at hl 1 rfl) ?_
  refine lv_if_lt (tgt := 22) hx hb dX5_cell_1 (by decide) (fun q1 => ?_) (fun q1 => ?_)
  · replace h := h.1 q1
    refine lv_iconst (v := 0) hx hb dX5_cell_22 (by decide) ?_
    exact g_iret hx hb hr hK hlk h hH dX5_cell_23
  · replace h := h.2 q1
    refine lv_iload_n hx hb dX5_cell_4 rfl (lv_at hl 1 rfl) ?_
    refine lv_aload_n hx hb dX5_cell_5 rfl (lv_at hl 0 rfl) ?_
    refine g_getr hx hb hB inB5 hown hK hH (c0 := c0) hc0.1 rfl 0 (by decide) k9 rfl (c1 := c0 + 1) rfl dX5_cell_6 ?_
    refine g_aleni hx hb hK hH (c0 := c0 + 1) hc0.2 dX5_cell_9 ?_
    refine lv_icmp_ge (tgt := 22) hx hb dX5_cell_10 (by decide) (fun q2 => ?_) (fun q2 => ?_)
    · replace h := h.1 q2
      refine lv_iconst (v := 0) hx hb dX5_cell_22 (by decide) ?_
      exact g_iret hx hb hr hK hlk h hH dX5_cell_23
    · replace h := h.2 q2
      refine lv_aload_n hx hb dX5_cell_13 rfl (lv_at hl 0 rfl) ?_
      refine g_getr hx hb hB inB5 hown hK hH (c0 := c0) hc0.1 rfl 0 (by decide) k9 rfl (c1 := c0 + 1) rfl dX5_cell_14 ?_
      refine lv_iload_n hx hb dX5_cell_17 rfl (lv_at hl 1 rfl) ?_
      obtain ⟨hi3, h⟩ := h
      refine g_iald hx hb hK hH (c0 := c0 + 1) hc0.2 hi3 dX5_cell_18 ?_
      refine lv_goto (tgt := 23) hx hb dX5_cell_19 (by decide) ?_
      exact g_iret hx hb hr hK hlk h hH dX5_cell_23
def wpX5_has (c0 : Nat) (x1 : Int32) (x2 : Int32) (σ : Sg) (Q : Int32 → Sg → Prop) : Prop := ((x1 < 0 → Q 0 σ) ∧ (¬ (x1 < 0) → (((nI 240) ≤ x1 → Q 0 σ) ∧ (¬ ((nI 240) ≤ x1) → (vp_in x1 240 ∧ ((((σ (c0 + 1) x1.toNatClampNeg) &&& x2) = 0 → Q 0 σ) ∧ (¬ (((σ (c0 + 1) x1.toNatClampNeg) &&& x2) = 0) → Q 1 σ)))))))
set_option maxHeartbeats 8000000 in
set_option maxRecDepth 100000 in
theorem tX5_has {l : Launch} {G : GG} {c0 : Nat} {x1 : Int32} {x2 : Int32} {σ : Sg} {Q : Int32 → Sg → Prop} (hc0 : isPiece G c0) (h : wpX5_has c0 x1 x2 σ Q) : Ki l G yX5_has (wB yX5_has prog_7_method_4_code 3 (Option.some FieldType.boolean)) ({ frames := 0, cells := 0, slots := 0, locals := 0 }) [.ref (ga G c0), .int x1, .int x2] σ Q := by
  refine K_of (cc := cX5_has) (maxL := 3) (ret := (some .boolean)) (by decide) rfl (Nat.le_of_ble_eq_true rfl) ?_
  intro p e s m args below meth c ls B hH hl
  obtain ⟨hx, hb, hr, hts, hown, hlk, hml, hK, hX⟩ := B
  replace hl : lv_has ls 3 [(0, .ref (ga G c0)), (1, .int x1), (2, .int x2)] := hl
  have hB : ∀ w ∈ BIG, w.before args s = true := fun w h9 => hts w (List.mem_cons_of_mem _ h9)
  clear hts
  have k9 := hB _ bw1_118
  unfold wpX5_has at h
  refine lv_iload_n hx hb dX5_has_0 rfl (lv_at hl 1 rfl) ?_
  refine lv_if_lt (tgt := 28) hx hb dX5_has_1 (by decide) (fun q1 => ?_) (fun q1 => ?_)
  · replace h := h.1 q1
    refine lv_iconst (v := 0) hx hb dX5_has_28 (by decide) ?_
    exact g_zret hx hb hr hK hlk vz0 h hH dX5_has_29
  · replace h := h.2 q1
    refine lv_iload_n hx hb dX5_has_4 rfl (lv_at hl 1 rfl) ?_
    refine lv_aload_n hx hb dX5_has_5 rfl (lv_at hl 0 rfl) ?_
    refine g_getr hx hb hB inB5 hown hK hH (c0 := c0) hc0.1 rfl 0 (by decide) k9 rfl (c1 := c0 + 1) rfl dX5_has_6 ?_
    refine g_aleni hx hb hK hH (c0 := c0 + 1) hc0.2 dX5_has_9 ?_
    refine lv_icmp_ge (tgt := 28) hx hb dX5_has_10 (by decide) (fun q2 => ?_) (fun q2 => ?_)
    · replace h := h.1 q2
      refine lv_iconst (v := 0) hx hb dX5_has_28 (by decide) ?_
      exact g_zret hx hb hr hK hlk vz0 h hH dX5_has_29
    · replace h := h.2 q2
      refine lv_aload_n hx hb dX5_has_13 rfl (lv_at hl 0 rfl) ?_
      refine g_getr hx hb hB inB5 hown hK hH (c0 := c0) hc0.1 rfl 0 (by decide) k9 rfl (c1 := c0 + 1) rfl dX5_has_14 ?_
      refine lv_iload_n hx hb dX5_has_17 rfl (lv_at hl 1 rfl) ?_
      obtain ⟨hi3, h⟩ := h
      refine g_iald hx hb hK hH (c0 := c0 + 1) hc0.2 hi3 dX5_has_18 ?_
      refine lv_iload_n hx hb dX5_has_19 rfl (lv_at hl 2 rfl) ?_
      refine lv_iand hx hb dX5_has_20 ?_
      refine lv_if_eq (tgt := 28) hx hb dX5_has_21 (by decide) (fun q4 => ?_) (fun q4 => ?_)
      · replace h := h.1 q4
        refine lv_iconst (v := 0) hx hb dX5_has_28 (by decide) ?_
        exact g_zret hx hb hr hK hlk vz0 h hH dX5_has_29
      · replace h := h.2 q4
        refine lv_iconst (v := 1) hx hb dX5_has_24 (by decide) ?_
        refine lv_goto (tgt := 29) hx hb dX5_has_25 (by decide) ?_
        exact g_zret hx hb hr hK hlk vz1 h hH dX5_has_29
def wpX5_append (c0 : Nat) (x1 : Int32) (σ : Sg) (Q : Sg → Prop) : Prop := (((σ c0 1) < 0 → Q σ) ∧ (¬ ((σ c0 1) < 0) → (((nI 240) ≤ (σ c0 1) → Q σ) ∧ (¬ ((nI 240) ≤ (σ c0 1)) → ∀ σ3 : Sg, σ3 = up2 σ c0 1 ((σ c0 1) + 1) → (vp_in (σ c0 1) 240 ∧ ∀ σ4 : Sg, σ4 = up2 σ3 (c0 + 1) ((σ c0 1).toNatClampNeg) x1 → Q σ4)))))
set_option maxHeartbeats 8000000 in
set_option maxRecDepth 100000 in
theorem tX5_append {l : Launch} {G : GG} {c0 : Nat} {x1 : Int32} {σ : Sg} {Q : Sg → Prop} (hc0 : isPiece G c0) (h : wpX5_append c0 x1 σ Q) : Kv l G yX5_append (wB yX5_append prog_7_method_5_code 2 none) ({ frames := 0, cells := 0, slots := 0, locals := 0 }) [.ref (ga G c0), .int x1] σ Q := by
  refine K_of (cc := cX5_append) (maxL := 2) (ret := none) (by decide) rfl (Nat.le_of_ble_eq_true rfl) ?_
  intro p e s m args below meth c ls B hH hl
  obtain ⟨hx, hb, hr, hts, hown, hlk, hml, hK, hX⟩ := B
  replace hl : lv_has ls 2 [(0, .ref (ga G c0)), (1, .int x1)] := hl
  have hB : ∀ w ∈ BIG, w.before args s = true := fun w h9 => hts w (List.mem_cons_of_mem _ h9)
  clear hts
  have k9 := hB _ bw1_118
  have k21 := hB _ bw1_120
  unfold wpX5_append at h
  refine lv_aload_n hx hb dX5_append_0 rfl (lv_at hl 0 rfl) ?_
  refine g_geti hx hb hB inB5 hown hK hH (c0 := c0) hc0.1 rfl 1 (by decide) k21 rfl rfl dX5_append_1 ?_
  refine lv_if_lt (tgt := 36) hx hb dX5_append_4 (by decide) (fun q1 => ?_) (fun q1 => ?_)
  · replace h := h.1 q1
    exact g_vret hx hb hr hK hlk h hH dX5_append_36
  · replace h := h.2 q1
    refine lv_aload_n hx hb dX5_append_7 rfl (lv_at hl 0 rfl) ?_
    refine g_geti hx hb hB inB5 hown hK hH (c0 := c0) hc0.1 rfl 1 (by decide) k21 rfl rfl dX5_append_8 ?_
    refine lv_aload_n hx hb dX5_append_11 rfl (lv_at hl 0 rfl) ?_
    refine g_getr hx hb hB inB5 hown hK hH (c0 := c0) hc0.1 rfl 0 (by decide) k9 rfl (c1 := c0 + 1) rfl dX5_append_12 ?_
    refine g_aleni hx hb hK hH (c0 := c0 + 1) hc0.2 dX5_append_15 ?_
    refine lv_icmp_ge (tgt := 36) hx hb dX5_append_16 (by decide) (fun q2 => ?_) (fun q2 => ?_)
    · replace h := h.1 q2
      exact g_vret hx hb hr hK hlk h hH dX5_append_36
    · replace h := h.2 q2
      refine lv_aload_n hx hb dX5_append_19 rfl (lv_at hl 0 rfl) ?_
      refine g_getr hx hb hB inB5 hown hK hH (c0 := c0) hc0.1 rfl 0 (by decide) k9 rfl (c1 := c0 + 1) rfl dX5_append_20 ?_
      refine lv_aload_n hx hb dX5_append_23 rfl (lv_at hl 0 rfl) ?_
      refine lv_dup hx hb dX5_append_24 rfl ?_
      refine g_geti hx hb hB inB5 hown hK hH (c0 := c0) hc0.1 rfl 1 (by decide) k21 rfl rfl dX5_append_25 ?_
      refine lv_dup_x1 hx hb dX5_append_28 rfl rfl ?_
      refine lv_iconst (v := 1) hx hb dX5_append_29 (by decide) ?_
      refine lv_iadd hx hb dX5_append_30 ?_
      refine g_put hx hb hB inB5 tyX5 tyX5_ok nmX5 hown hK hH (c0 := c0) hc0.1 rfl 1 (by decide) k21 rfl rfl rfl rfl rfl dX5_append_31 (fun σ3 eσ3 H locs hH => ?_)
      replace h := h σ3 eσ3
      refine lv_iload_n hx hb dX5_append_34 rfl (lv_at hl 1 rfl) ?_
      obtain ⟨hi4, h⟩ := h
      refine g_iast hx hb hK hH (c0 := c0 + 1) (i := σ c0 1) hc0.2 hi4 dX5_append_35 (fun σ4 eσ4 H locs hH => ?_)
      replace h := h σ4 eσ4
      exact g_vret hx hb hr hK hlk h hH dX5_append_36
def wpX5_markCell (c0 : Nat) (x1 : Int32) (σ : Sg) (Q : Sg → Prop) : Prop := ((x1 < 0 → Q σ) ∧ (¬ (x1 < 0) → (((nI 240) ≤ x1 → Q σ) ∧ (¬ ((nI 240) ≤ x1) → (vp_in x1 240 ∧ ((¬ ((σ (c0 + 1) x1.toNatClampNeg) &&& 1024) = 0 → Q σ) ∧ (((σ (c0 + 1) x1.toNatClampNeg) &&& 1024) = 0 → (vp_in x1 240 ∧ (vp_in x1 240 ∧ ∀ σ6 : Sg, σ6 = up2 σ (c0 + 1) x1.toNatClampNeg ((σ (c0 + 1) x1.toNatClampNeg) ||| 1024) → ∀ σ7 : Sg, σ7 = up2 σ6 c0 2 ((σ6 c0 2) + 1) → Q σ7)))))))))
set_option maxHeartbeats 8000000 in
set_option maxRecDepth 100000 in
theorem tX5_markCell {l : Launch} {G : GG} {c0 : Nat} {x1 : Int32} {σ : Sg} {Q : Sg → Prop} (hc0 : isPiece G c0) (h : wpX5_markCell c0 x1 σ Q) : Kv l G yX5_markCell (wB yX5_markCell prog_7_method_6_code 2 none) ({ frames := 0, cells := 0, slots := 0, locals := 0 }) [.ref (ga G c0), .int x1] σ Q := by
  refine K_of (cc := cX5_markCell) (maxL := 2) (ret := none) (by decide) rfl (Nat.le_of_ble_eq_true rfl) ?_
  intro p e s m args below meth c ls B hH hl
  obtain ⟨hx, hb, hr, hts, hown, hlk, hml, hK, hX⟩ := B
  replace hl : lv_has ls 2 [(0, .ref (ga G c0)), (1, .int x1)] := hl
  have hB : ∀ w ∈ BIG, w.before args s = true := fun w h9 => hts w (List.mem_cons_of_mem _ h9)
  clear hts
  have k9 := hB _ bw1_118
  have k25 := hB _ bw1_123
  unfold wpX5_markCell at h
  refine lv_iload_n hx hb dX5_markCell_0 rfl (lv_at hl 1 rfl) ?_
  refine lv_if_lt (tgt := 48) hx hb dX5_markCell_1 (by decide) (fun q1 => ?_) (fun q1 => ?_)
  · replace h := h.1 q1
    exact g_vret hx hb hr hK hlk h hH dX5_markCell_48
  · replace h := h.2 q1
    refine lv_iload_n hx hb dX5_markCell_4 rfl (lv_at hl 1 rfl) ?_
    refine lv_aload_n hx hb dX5_markCell_5 rfl (lv_at hl 0 rfl) ?_
    refine g_getr hx hb hB inB5 hown hK hH (c0 := c0) hc0.1 rfl 0 (by decide) k9 rfl (c1 := c0 + 1) rfl dX5_markCell_6 ?_
    refine g_aleni hx hb hK hH (c0 := c0 + 1) hc0.2 dX5_markCell_9 ?_
    refine lv_icmp_ge (tgt := 48) hx hb dX5_markCell_10 (by decide) (fun q2 => ?_) (fun q2 => ?_)
    · replace h := h.1 q2
      exact g_vret hx hb hr hK hlk h hH dX5_markCell_48
    · replace h := h.2 q2
      refine lv_aload_n hx hb dX5_markCell_13 rfl (lv_at hl 0 rfl) ?_
      refine g_getr hx hb hB inB5 hown hK hH (c0 := c0) hc0.1 rfl 0 (by decide) k9 rfl (c1 := c0 + 1) rfl dX5_markCell_14 ?_
      refine lv_iload_n hx hb dX5_markCell_17 rfl (lv_at hl 1 rfl) ?_
      obtain ⟨hi3, h⟩ := h
      refine g_iald hx hb hK hH (c0 := c0 + 1) hc0.2 hi3 dX5_markCell_18 ?_
      refine lv_sipush (v := 1024) hx hb dX5_markCell_19 (by decide) ?_
      refine lv_iand hx hb dX5_markCell_22 ?_
      refine lv_if_ne (tgt := 48) hx hb dX5_markCell_23 (by decide) (fun q4 => ?_) (fun q4 => ?_)
      · replace h := h.1 q4
        exact g_vret hx hb hr hK hlk h hH dX5_markCell_48
      · replace h := h.2 q4
        refine lv_aload_n hx hb dX5_markCell_26 rfl (lv_at hl 0 rfl) ?_
        refine g_getr hx hb hB inB5 hown hK hH (c0 := c0) hc0.1 rfl 0 (by decide) k9 rfl (c1 := c0 + 1) rfl dX5_markCell_27 ?_
        refine lv_iload_n hx hb dX5_markCell_30 rfl (lv_at hl 1 rfl) ?_
        refine lv_dup2_11 hx hb dX5_markCell_31 rfl rfl ?_
        obtain ⟨hi5, h⟩ := h
        refine g_iald hx hb hK hH (c0 := c0 + 1) hc0.2 hi5 dX5_markCell_32 ?_
        refine lv_sipush (v := 1024) hx hb dX5_markCell_33 (by decide) ?_
        refine lv_ior hx hb dX5_markCell_36 ?_
        obtain ⟨hi6, h⟩ := h
        refine g_iast hx hb hK hH (c0 := c0 + 1) (i := x1) hc0.2 hi6 dX5_markCell_37 (fun σ6 eσ6 H locs hH => ?_)
        replace h := h σ6 eσ6
        refine lv_aload_n hx hb dX5_markCell_38 rfl (lv_at hl 0 rfl) ?_
        refine lv_dup hx hb dX5_markCell_39 rfl ?_
        refine g_geti hx hb hB inB5 hown hK hH (c0 := c0) hc0.1 rfl 2 (by decide) k25 rfl rfl dX5_markCell_40 ?_
        refine lv_iconst (v := 1) hx hb dX5_markCell_43 (by decide) ?_
        refine lv_iadd hx hb dX5_markCell_44 ?_
        refine g_put hx hb hB inB5 tyX5 tyX5_ok nmX5 hown hK hH (c0 := c0) hc0.1 rfl 2 (by decide) k25 rfl rfl rfl rfl rfl dX5_markCell_45 (fun σ7 eσ7 H locs hH => ?_)
        replace h := h σ7 eσ7
        exact g_vret hx hb hr hK hlk h hH dX5_markCell_48
def wpX5_unmarkCell (c0 : Nat) (x1 : Int32) (σ : Sg) (Q : Sg → Prop) : Prop := ((x1 < 0 → Q σ) ∧ (¬ (x1 < 0) → (((nI 240) ≤ x1 → Q σ) ∧ (¬ ((nI 240) ≤ x1) → (vp_in x1 240 ∧ ((((σ (c0 + 1) x1.toNatClampNeg) &&& 1024) = 0 → Q σ) ∧ (¬ (((σ (c0 + 1) x1.toNatClampNeg) &&& 1024) = 0) → (vp_in x1 240 ∧ (vp_in x1 240 ∧ ∀ σ6 : Sg, σ6 = up2 σ (c0 + 1) x1.toNatClampNeg ((σ (c0 + 1) x1.toNatClampNeg) &&& (-1025)) → ∀ σ7 : Sg, σ7 = up2 σ6 c0 2 ((σ6 c0 2) - 1) → Q σ7)))))))))
set_option maxHeartbeats 8000000 in
set_option maxRecDepth 100000 in
theorem tX5_unmarkCell {l : Launch} {G : GG} {c0 : Nat} {x1 : Int32} {σ : Sg} {Q : Sg → Prop} (hc0 : isPiece G c0) (h : wpX5_unmarkCell c0 x1 σ Q) : Kv l G yX5_unmarkCell (wB yX5_unmarkCell prog_7_method_7_code 2 none) ({ frames := 0, cells := 0, slots := 0, locals := 0 }) [.ref (ga G c0), .int x1] σ Q := by
  refine K_of (cc := cX5_unmarkCell) (maxL := 2) (ret := none) (by decide) rfl (Nat.le_of_ble_eq_true rfl) ?_
  intro p e s m args below meth c ls B hH hl
  obtain ⟨hx, hb, hr, hts, hown, hlk, hml, hK, hX⟩ := B
  replace hl : lv_has ls 2 [(0, .ref (ga G c0)), (1, .int x1)] := hl
  have hB : ∀ w ∈ BIG, w.before args s = true := fun w h9 => hts w (List.mem_cons_of_mem _ h9)
  clear hts
  have k9 := hB _ bw1_118
  have k25 := hB _ bw1_123
  unfold wpX5_unmarkCell at h
  refine lv_iload_n hx hb dX5_unmarkCell_0 rfl (lv_at hl 1 rfl) ?_
  refine lv_if_lt (tgt := 48) hx hb dX5_unmarkCell_1 (by decide) (fun q1 => ?_) (fun q1 => ?_)
  · replace h := h.1 q1
    exact g_vret hx hb hr hK hlk h hH dX5_unmarkCell_48
  · replace h := h.2 q1
    refine lv_iload_n hx hb dX5_unmarkCell_4 rfl (lv_at hl 1 rfl) ?_
    refine lv_aload_n hx hb dX5_unmarkCell_5 rfl (lv_at hl 0 rfl) ?_
    refine g_getr hx hb hB inB5 hown hK hH (c0 := c0) hc0.1 rfl 0 (by decide) k9 rfl (c1 := c0 + 1) rfl dX5_unmarkCell_6 ?_
    refine g_aleni hx hb hK hH (c0 := c0 + 1) hc0.2 dX5_unmarkCell_9 ?_
    refine lv_icmp_ge (tgt := 48) hx hb dX5_unmarkCell_10 (by decide) (fun q2 => ?_) (fun q2 => ?_)
    · replace h := h.1 q2
      exact g_vret hx hb hr hK hlk h hH dX5_unmarkCell_48
    · replace h := h.2 q2
      refine lv_aload_n hx hb dX5_unmarkCell_13 rfl (lv_at hl 0 rfl) ?_
      refine g_getr hx hb hB inB5 hown hK hH (c0 := c0) hc0.1 rfl 0 (by decide) k9 rfl (c1 := c0 + 1) rfl dX5_unmarkCell_14 ?_
      refine lv_iload_n hx hb dX5_unmarkCell_17 rfl (lv_at hl 1 rfl) ?_
      obtain ⟨hi3, h⟩ := h
      refine g_iald hx hb hK hH (c0 := c0 + 1) hc0.2 hi3 dX5_unmarkCell_18 ?_
      refine lv_sipush (v := 1024) hx hb dX5_unmarkCell_19 (by decide) ?_
      refine lv_iand hx hb dX5_unmarkCell_22 ?_
      refine lv_if_eq (tgt := 48) hx hb dX5_unmarkCell_23 (by decide) (fun q4 => ?_) (fun q4 => ?_)
      · replace h := h.1 q4
        exact g_vret hx hb hr hK hlk h hH dX5_unmarkCell_48
      · replace h := h.2 q4
        refine lv_aload_n hx hb dX5_unmarkCell_26 rfl (lv_at hl 0 rfl) ?_
        refine g_getr hx hb hB inB5 hown hK hH (c0 := c0) hc0.1 rfl 0 (by decide) k9 rfl (c1 := c0 + 1) rfl dX5_unmarkCell_27 ?_
        refine lv_iload_n hx hb dX5_unmarkCell_30 rfl (lv_at hl 1 rfl) ?_
        refine lv_dup2_11 hx hb dX5_unmarkCell_31 rfl rfl ?_
        obtain ⟨hi5, h⟩ := h
        refine g_iald hx hb hK hH (c0 := c0 + 1) hc0.2 hi5 dX5_unmarkCell_32 ?_
        refine lv_sipush (v := (-1025)) hx hb dX5_unmarkCell_33 (by decide) ?_
        refine lv_iand hx hb dX5_unmarkCell_36 ?_
        obtain ⟨hi6, h⟩ := h
        refine g_iast hx hb hK hH (c0 := c0 + 1) (i := x1) hc0.2 hi6 dX5_unmarkCell_37 (fun σ6 eσ6 H locs hH => ?_)
        replace h := h σ6 eσ6
        refine lv_aload_n hx hb dX5_unmarkCell_38 rfl (lv_at hl 0 rfl) ?_
        refine lv_dup hx hb dX5_unmarkCell_39 rfl ?_
        refine g_geti hx hb hB inB5 hown hK hH (c0 := c0) hc0.1 rfl 2 (by decide) k25 rfl rfl dX5_unmarkCell_40 ?_
        refine lv_iconst (v := 1) hx hb dX5_unmarkCell_43 (by decide) ?_
        refine lv_isub hx hb dX5_unmarkCell_44 ?_
        refine g_put hx hb hB inB5 tyX5 tyX5_ok nmX5 hown hK hH (c0 := c0) hc0.1 rfl 2 (by decide) k25 rfl rfl rfl rfl rfl dX5_unmarkCell_45 (fun σ7 eσ7 H locs hH => ?_)
        replace h := h σ7 eσ7
        exact g_vret hx hb hr hK hlk h hH dX5_unmarkCell_48
def wpX5_putArrived (c0 : Nat) (x1 : Int32) (x2 : Int32) (σ : Sg) (Q : Sg → Prop) : Prop := ((x1 < 0 → Q σ) ∧ (¬ (x1 < 0) → (((nI 240) ≤ x1 → Q σ) ∧ (¬ ((nI 240) ≤ x1) → (vp_in x1 240 ∧ ((¬ ((σ (c0 + 1) x1.toNatClampNeg) &&& 1024) = 0 → Q σ) ∧ (((σ (c0 + 1) x1.toNatClampNeg) &&& 1024) = 0 → (vp_in x1 240 ∧ ∀ σ5 : Sg, σ5 = up2 σ (c0 + 1) x1.toNatClampNeg (x2 ||| 1024) → ∀ σ6 : Sg, σ6 = up2 σ5 c0 2 ((σ5 c0 2) + 1) → Q σ6))))))))
set_option maxHeartbeats 8000000 in
set_option maxRecDepth 100000 in
theorem tX5_putArrived {l : Launch} {G : GG} {c0 : Nat} {x1 : Int32} {x2 : Int32} {σ : Sg} {Q : Sg → Prop} (hc0 : isPiece G c0) (h : wpX5_putArrived c0 x1 x2 σ Q) : Kv l G yX5_putArrived (wB yX5_putArrived prog_7_method_8_code 3 none) ({ frames := 0, cells := 0, slots := 0, locals := 0 }) [.ref (ga G c0), .int x1, .int x2] σ Q := by
  refine K_of (cc := cX5_putArrived) (maxL := 3) (ret := none) (by decide) rfl (Nat.le_of_ble_eq_true rfl) ?_
  intro p e s m args below meth c ls B hH hl
  obtain ⟨hx, hb, hr, hts, hown, hlk, hml, hK, hX⟩ := B
  replace hl : lv_has ls 3 [(0, .ref (ga G c0)), (1, .int x1), (2, .int x2)] := hl
  have hB : ∀ w ∈ BIG, w.before args s = true := fun w h9 => hts w (List.mem_cons_of_mem _ h9)
  clear hts
  have k9 := hB _ bw1_118
  have k25 := hB _ bw1_123
  unfold wpX5_putArrived at h
  refine lv_iload_n hx hb dX5_putArrived_0 rfl (lv_at hl 1 rfl) ?_
  refine lv_if_lt (tgt := 47) hx hb dX5_putArrived_1 (by decide) (fun q1 => ?_) (fun q1 => ?_)
  · replace h := h.1 q1
    exact g_vret hx hb hr hK hlk h hH dX5_putArrived_47
  · replace h := h.2 q1
    refine lv_iload_n hx hb dX5_putArrived_4 rfl (lv_at hl 1 rfl) ?_
    refine lv_aload_n hx hb dX5_putArrived_5 rfl (lv_at hl 0 rfl) ?_
    refine g_getr hx hb hB inB5 hown hK hH (c0 := c0) hc0.1 rfl 0 (by decide) k9 rfl (c1 := c0 + 1) rfl dX5_putArrived_6 ?_
    refine g_aleni hx hb hK hH (c0 := c0 + 1) hc0.2 dX5_putArrived_9 ?_
    refine lv_icmp_ge (tgt := 47) hx hb dX5_putArrived_10 (by decide) (fun q2 => ?_) (fun q2 => ?_)
    · replace h := h.1 q2
      exact g_vret hx hb hr hK hlk h hH dX5_putArrived_47
    · replace h := h.2 q2
      refine lv_aload_n hx hb dX5_putArrived_13 rfl (lv_at hl 0 rfl) ?_
      refine g_getr hx hb hB inB5 hown hK hH (c0 := c0) hc0.1 rfl 0 (by decide) k9 rfl (c1 := c0 + 1) rfl dX5_putArrived_14 ?_
      refine lv_iload_n hx hb dX5_putArrived_17 rfl (lv_at hl 1 rfl) ?_
      obtain ⟨hi3, h⟩ := h
      refine g_iald hx hb hK hH (c0 := c0 + 1) hc0.2 hi3 dX5_putArrived_18 ?_
      refine lv_sipush (v := 1024) hx hb dX5_putArrived_19 (by decide) ?_
      refine lv_iand hx hb dX5_putArrived_22 ?_
      refine lv_if_ne (tgt := 47) hx hb dX5_putArrived_23 (by decide) (fun q4 => ?_) (fun q4 => ?_)
      · replace h := h.1 q4
        exact g_vret hx hb hr hK hlk h hH dX5_putArrived_47
      · replace h := h.2 q4
        refine lv_aload_n hx hb dX5_putArrived_26 rfl (lv_at hl 0 rfl) ?_
        refine g_getr hx hb hB inB5 hown hK hH (c0 := c0) hc0.1 rfl 0 (by decide) k9 rfl (c1 := c0 + 1) rfl dX5_putArrived_27 ?_
        refine lv_iload_n hx hb dX5_putArrived_30 rfl (lv_at hl 1 rfl) ?_
        refine lv_iload_n hx hb dX5_putArrived_31 rfl (lv_at hl 2 rfl) ?_
        refine lv_sipush (v := 1024) hx hb dX5_putArrived_32 (by decide) ?_
        refine lv_ior hx hb dX5_putArrived_35 ?_
        obtain ⟨hi5, h⟩ := h
        refine g_iast hx hb hK hH (c0 := c0 + 1) (i := x1) hc0.2 hi5 dX5_putArrived_36 (fun σ5 eσ5 H locs hH => ?_)
        replace h := h σ5 eσ5
        refine lv_aload_n hx hb dX5_putArrived_37 rfl (lv_at hl 0 rfl) ?_
        refine lv_dup hx hb dX5_putArrived_38 rfl ?_
        refine g_geti hx hb hB inB5 hown hK hH (c0 := c0) hc0.1 rfl 2 (by decide) k25 rfl rfl dX5_putArrived_39 ?_
        refine lv_iconst (v := 1) hx hb dX5_putArrived_42 (by decide) ?_
        refine lv_iadd hx hb dX5_putArrived_43 ?_
        refine g_put hx hb hB inB5 tyX5 tyX5_ok nmX5 hown hK hH (c0 := c0) hc0.1 rfl 2 (by decide) k25 rfl rfl rfl rfl rfl dX5_putArrived_44 (fun σ6 eσ6 H locs hH => ?_)
        replace h := h σ6 eσ6
        exact g_vret hx hb hr hK hlk h hH dX5_putArrived_47
def wpX5_nextMark_L42 (Q : Int32 → Sg → Prop) (K7 : Nat → Int32 → Int32 → Int32 → Sg → Prop) (c0 : Nat) (x2 : Int32) (x3 : Int32) (x4 : Int32) (z0 : Int32) (σ : Sg) : Prop := ((¬ z0 = x3 → ∀ x4_7 : Int32, x4_7 = x4 + 1 → K7 c0 x2 x3 x4_7 σ) ∧ (z0 = x3 → Q x4 σ))
def wpX5_nextMark_L7 (Q : Int32 → Sg → Prop) : Nat → Nat → Int32 → Int32 → Int32 → Sg → Prop
  | 0, _, _, _, _, _ => False
  | n + 1, c0, x2, x3, x4, σ => ((x2 ≤ x4 → Q x2 σ) ∧ (¬ (x2 ≤ x4) → (((nI 240) ≤ x4 → Q x2 σ) ∧ (¬ ((nI 240) ≤ x4) → (vp_in x4 240 ∧ ((((σ (c0 + 1) x4.toNatClampNeg) &&& 1024) = 0 → wpX5_nextMark_L42 Q (wpX5_nextMark_L7 Q n) c0 x2 x3 x4 0 σ) ∧ (¬ (((σ (c0 + 1) x4.toNatClampNeg) &&& 1024) = 0) → wpX5_nextMark_L42 Q (wpX5_nextMark_L7 Q n) c0 x2 x3 x4 1 σ)))))))
def wpX5_nextMark (c0 : Nat) (x1 : Int32) (x2 : Int32) (x3 : Int32) (σ : Sg) (Q : Int32 → Sg → Prop) : Prop := ∀ w1 : Int32, w1 = (if x1 < 0 then 0 else x1) → ∃ nn, wpX5_nextMark_L7 Q nn c0 x2 x3 w1 σ
set_option maxHeartbeats 8000000 in
set_option maxRecDepth 100000 in
theorem tX5_nextMark {l : Launch} {G : GG} {c0 : Nat} {x1 : Int32} {x2 : Int32} {x3 : Int32} {σ : Sg} {Q : Int32 → Sg → Prop} (hc0 : isPiece G c0) (h : wpX5_nextMark c0 x1 x2 x3 σ Q) : Ki l G yX5_nextMark (wB yX5_nextMark prog_7_method_9_code 5 (Option.some FieldType.int)) ({ frames := 1, cells := 0, slots := 0, locals := 13 }) [.ref (ga G c0), .int x1, .int x2, .int x3] σ Q := by
  refine K_of (cc := cX5_nextMark) (maxL := 5) (ret := (some .int)) (by decide) rfl (Nat.le_of_ble_eq_true rfl) ?_
  intro p e s m args below meth c ls B hH hl
  obtain ⟨hx, hb, hr, hts, hown, hlk, hml, hK, hX⟩ := B
  replace hl : lv_has ls 5 [(0, .ref (ga G c0)), (1, .int x1), (2, .int x2), (3, .int x3)] := hl
  have hB : ∀ w ∈ BIG, w.before args s = true := fun w h9 => hts w (List.mem_cons_of_mem _ h9)
  clear hts
  have k9 := hB _ bw1_118
  have k38 := hB _ bw3_48
  have kmmax1 := hB _ bw2_233
  have km2 := hB _ bw1_12
  have kmmax3 : (Cond.code Lib.Math.max.name Lib.Math.max.code 2 (some .int)).before args s = true := hB _ bw2_234
  have L7 : ∀ (n7 : Nat) (c0 : Nat) (hc0 : isPiece G c0) (x2 : Int32) (x3 : Int32) (x4 : Int32) (σ : Sg) (H : Heap) (locs : List Loc) (ls : Array Slot), Hx G (aA G s.heap.size) s σ H locs → lv_has ls 5 [(0, .ref (ga G c0)), (2, .int x2), (3, .int x3), (4, .int x4)] → wpX5_nextMark_L7 Q n7 c0 x2 x3 x4 σ → W p l e ({ frames := 1, cells := 0, slots := 0, locals := 13 }) s m args below meth c H locs 0 0 (Zi G Q below args s) (F0 m 7 ls []) := by
    intro n7
    induction n7 with
    | zero =>
      intro c0 hc0 x2 x3 x4 σ H locs ls hH hl h
      exact False.elim h
    | succ n7 ih7 =>
      have L42 : ∀ (c0 : Nat) (hc0 : isPiece G c0) (x2 : Int32) (x3 : Int32) (x4 : Int32) (z0 : Int32) (σ : Sg) (H : Heap) (locs : List Loc) (ls : Array Slot), Hx G (aA G s.heap.size) s σ H locs → lv_has ls 5 [(0, .ref (ga G c0)), (2, .int x2), (3, .int x3), (4, .int x4)] → wpX5_nextMark_L42 Q (wpX5_nextMark_L7 Q n7) c0 x2 x3 x4 z0 σ → W p l e ({ frames := 1, cells := 0, slots := 0, locals := 13 }) s m args below meth c H locs 0 0 (Zi G Q below args s) (F0 m 42 ls [.int z0]) := by
        intro c0 hc0 x2 x3 x4 z0 σ H locs ls hH hl h
        unfold wpX5_nextMark_L42 at h
        refine lv_iload_n hx hb dX5_nextMark_42 rfl (lv_at hl 2 rfl) ?_
        refine lv_icmp_ne (tgt := 49) hx hb dX5_nextMark_43 (by decide) (fun q6 => ?_) (fun q6 => ?_)
        · replace h := h.1 q6
          obtain ⟨x4_7, ex4_7⟩ : ∃ y : Int32, y = x4 + 1 := ⟨_, rfl⟩
          replace h := h x4_7 ex4_7
          refine lv_iinc (v := x4_7) (lv' := [(4, .int x4_7), (0, .ref (ga G c0)), (2, .int x2), (3, .int x3)]) hx hb dX5_nextMark_49 hl (k := 3) rfl (by rw [ex4_7]; rfl) (by decide) rfl (fun ls hl => ?_)
          refine lv_goto (tgt := 7) hx hb dX5_nextMark_52 (by decide) ?_
          exact ih7 c0 hc0 x2 x3 x4_7 σ _ _ ls hH (lv_sub hl [1, 2, 3, 0] rfl) h
        · replace h := h.2 q6
          refine lv_iload hx hb dX5_nextMark_46 (lv_at hl 3 rfl) ?_
          exact g_iret hx hb hr hK hlk h hH dX5_nextMark_48
      intro c0 hc0 x2 x3 x4 σ H locs ls hH hl h
      unfold wpX5_nextMark_L7 at h
      refine lv_iload hx hb dX5_nextMark_7 (lv_at hl 3 rfl) ?_
      refine lv_iload_n hx hb dX5_nextMark_9 rfl (lv_at hl 1 rfl) ?_
      refine lv_icmp_ge (tgt := 55) hx hb dX5_nextMark_10 (by decide) (fun q2 => ?_) (fun q2 => ?_)
      · replace h := h.1 q2
        refine lv_iload_n hx hb dX5_nextMark_55 rfl (lv_at hl 1 rfl) ?_
        exact g_iret hx hb hr hK hlk h hH dX5_nextMark_56
      · replace h := h.2 q2
        refine lv_iload hx hb dX5_nextMark_13 (lv_at hl 3 rfl) ?_
        refine lv_aload_n hx hb dX5_nextMark_15 rfl (lv_at hl 0 rfl) ?_
        refine g_getr hx hb hB inB5 hown hK hH (c0 := c0) hc0.1 rfl 0 (by decide) k9 rfl (c1 := c0 + 1) rfl dX5_nextMark_16 ?_
        refine g_aleni hx hb hK hH (c0 := c0 + 1) hc0.2 dX5_nextMark_19 ?_
        refine lv_icmp_ge (tgt := 55) hx hb dX5_nextMark_20 (by decide) (fun q3 => ?_) (fun q3 => ?_)
        · replace h := h.1 q3
          refine lv_iload_n hx hb dX5_nextMark_55 rfl (lv_at hl 1 rfl) ?_
          exact g_iret hx hb hr hK hlk h hH dX5_nextMark_56
        · replace h := h.2 q3
          refine lv_aload_n hx hb dX5_nextMark_23 rfl (lv_at hl 0 rfl) ?_
          refine g_getr hx hb hB inB5 hown hK hH (c0 := c0) hc0.1 rfl 0 (by decide) k9 rfl (c1 := c0 + 1) rfl dX5_nextMark_24 ?_
          refine lv_iload hx hb dX5_nextMark_27 (lv_at hl 3 rfl) ?_
          obtain ⟨hi4, h⟩ := h
          refine g_iald hx hb hK hH (c0 := c0 + 1) hc0.2 hi4 dX5_nextMark_29 ?_
          refine lv_sipush (v := 1024) hx hb dX5_nextMark_30 (by decide) ?_
          refine lv_iand hx hb dX5_nextMark_33 ?_
          refine lv_if_eq (tgt := 41) hx hb dX5_nextMark_34 (by decide) (fun q5 => ?_) (fun q5 => ?_)
          · replace h := h.1 q5
            refine lv_iconst (v := 0) hx hb dX5_nextMark_41 (by decide) ?_
            exact L42 c0 hc0 x2 x3 x4 0 σ _ _ ls hH (lv_sub hl [0, 1, 2, 3] rfl) h
          · replace h := h.2 q5
            refine lv_iconst (v := 1) hx hb dX5_nextMark_37 (by decide) ?_
            refine lv_goto (tgt := 42) hx hb dX5_nextMark_38 (by decide) ?_
            exact L42 c0 hc0 x2 x3 x4 1 σ _ _ ls hH (lv_sub hl [0, 1, 2, 3] rfl) h
  unfold wpX5_nextMark at h
  refine lv_iload_n hx hb dX5_nextMark_0 rfl (lv_at hl 1 rfl) ?_
  refine lv_iconst (v := 0) hx hb dX5_nextMark_1 (by decide) ?_
  refine va_mmax hx hb (hml.trans hl.1.symm) hown k38 kmmax1 km2 kmmax3 (Nat.le_of_ble_eq_true rfl) (Nat.le_of_ble_eq_true rfl) (Nat.zero_le _) (Nat.zero_le _) dX5_nextMark_2 ?_
  refine lv_topi (fun w1 ew1 => ?_)
  replace h := h w1 ew1
  refine lv_istore (lv' := [(4, .int w1), (0, .ref (ga G c0)), (1, .int x1), (2, .int x2), (3, .int x3)]) hx hb dX5_nextMark_5 hl (by decide) rfl (fun ls hl => ?_)
  obtain ⟨nn, h⟩ := h
  exact L7 nn c0 hc0 x2 x3 w1 σ _ _ ls hH (lv_sub hl [1, 3, 4, 0] rfl) h
def wpX5_innerEnds_L28 (Q : Int32 → Sg → Prop) (K5 : Nat → Int32 → Int32 → Int32 → Sg → Prop) (c0 : Nat) (x2 : Int32) (x3 : Int32) (x4 : Int32) (σ : Sg) : Prop := ∀ x4_5 : Int32, x4_5 = x4 + 1 → K5 c0 x2 x3 x4_5 σ
def wpX5_innerEnds_L5 (Q : Int32 → Sg → Prop) : Nat → Nat → Int32 → Int32 → Int32 → Sg → Prop
  | 0, _, _, _, _, _ => False
  | n + 1, c0, x2, x3, x4, σ => (((x2 - 1) ≤ x4 → Q x3 σ) ∧ (¬ ((x2 - 1) ≤ x4) → wpX5_has c0 x4 512 σ (fun r2 σ2 => ((r2 = 0 → wpX5_innerEnds_L28 Q (wpX5_innerEnds_L5 Q n) c0 x2 x3 x4 σ2) ∧ (¬ (r2 = 0) → ∀ x3_4 : Int32, x3_4 = x3 + 1 → wpX5_innerEnds_L28 Q (wpX5_innerEnds_L5 Q n) c0 x2 x3_4 x4 σ2)))))
def wpX5_innerEnds (c0 : Nat) (x1 : Int32) (x2 : Int32) (σ : Sg) (Q : Int32 → Sg → Prop) : Prop := ∃ nn, wpX5_innerEnds_L5 Q nn c0 x2 0 x1 σ
set_option maxHeartbeats 8000000 in
set_option maxRecDepth 100000 in
theorem tX5_innerEnds {l : Launch} {G : GG} {c0 : Nat} {x1 : Int32} {x2 : Int32} {σ : Sg} {Q : Int32 → Sg → Prop} (hc0 : isPiece G c0) (h : wpX5_innerEnds c0 x1 x2 σ Q) : Ki l G yX5_innerEnds (wB yX5_innerEnds prog_7_method_10_code 5 (Option.some FieldType.int)) ({ frames := 1, cells := 0, slots := 0, locals := 22 }) [.ref (ga G c0), .int x1, .int x2] σ Q := by
  refine K_of (cc := cX5_innerEnds) (maxL := 5) (ret := (some .int)) (by decide) rfl (Nat.le_of_ble_eq_true rfl) ?_
  intro p e s m args below meth c ls B hH hl
  obtain ⟨hx, hb, hr, hts, hown, hlk, hml, hK, hX⟩ := B
  replace hl : lv_has ls 5 [(0, .ref (ga G c0)), (1, .int x1), (2, .int x2)] := hl
  have hB : ∀ w ∈ BIG, w.before args s = true := fun w h9 => hts w (List.mem_cons_of_mem _ h9)
  clear hts
  have L5 : ∀ (n5 : Nat) (c0 : Nat) (hc0 : isPiece G c0) (x2 : Int32) (x3 : Int32) (x4 : Int32) (σ : Sg) (H : Heap) (locs : List Loc) (ls : Array Slot), Hx G (aA G s.heap.size) s σ H locs → lv_has ls 5 [(0, .ref (ga G c0)), (2, .int x2), (3, .int x3), (4, .int x4)] → wpX5_innerEnds_L5 Q n5 c0 x2 x3 x4 σ → W p l e ({ frames := 1, cells := 0, slots := 0, locals := 22 }) s m args below meth c H locs 0 0 (Zi G Q below args s) (F0 m 5 ls []) := by
    intro n5
    induction n5 with
    | zero =>
      intro c0 hc0 x2 x3 x4 σ H locs ls hH hl h
      exact False.elim h
    | succ n5 ih5 =>
      have L28 : ∀ (c0 : Nat) (hc0 : isPiece G c0) (x2 : Int32) (x3 : Int32) (x4 : Int32) (σ : Sg) (H : Heap) (locs : List Loc) (ls : Array Slot), Hx G (aA G s.heap.size) s σ H locs → lv_has ls 5 [(0, .ref (ga G c0)), (2, .int x2), (3, .int x3), (4, .int x4)] → wpX5_innerEnds_L28 Q (wpX5_innerEnds_L5 Q n5) c0 x2 x3 x4 σ → W p l e ({ frames := 1, cells := 0, slots := 0, locals := 22 }) s m args below meth c H locs 0 0 (Zi G Q below args s) (F0 m 28 ls []) := by
        intro c0 hc0 x2 x3 x4 σ H locs ls hH hl h
        unfold wpX5_innerEnds_L28 at h
        obtain ⟨x4_5, ex4_5⟩ : ∃ y : Int32, y = x4 + 1 := ⟨_, rfl⟩
        replace h := h x4_5 ex4_5
        refine lv_iinc (v := x4_5) (lv' := [(4, .int x4_5), (0, .ref (ga G c0)), (2, .int x2), (3, .int x3)]) hx hb dX5_innerEnds_28 hl (k := 3) rfl (by rw [ex4_5]; rfl) (by decide) rfl (fun ls hl => ?_)
        refine lv_goto (tgt := 5) hx hb dX5_innerEnds_31 (by decide) ?_
        exact ih5 c0 hc0 x2 x3 x4_5 σ _ _ ls hH (lv_sub hl [1, 2, 3, 0] rfl) h
      intro c0 hc0 x2 x3 x4 σ H locs ls hH hl h
      unfold wpX5_innerEnds_L5 at h
      refine lv_iload hx hb dX5_innerEnds_5 (lv_at hl 3 rfl) ?_
      refine lv_iload_n hx hb dX5_innerEnds_7 rfl (lv_at hl 1 rfl) ?_
      refine lv_iconst (v := 1) hx hb dX5_innerEnds_8 (by decide) ?_
      refine lv_isub hx hb dX5_innerEnds_9 ?_
      refine lv_icmp_ge (tgt := 34) hx hb dX5_innerEnds_10 (by decide) (fun q1 => ?_) (fun q1 => ?_)
      · replace h := h.1 q1
        refine lv_iload_n hx hb dX5_innerEnds_34 rfl (lv_at hl 2 rfl) ?_
        exact g_iret hx hb hr hK hlk h hH dX5_innerEnds_35
      · replace h := h.2 q1
        refine lv_aload_n hx hb dX5_innerEnds_13 rfl (lv_at hl 0 rfl) ?_
        refine lv_iload hx hb dX5_innerEnds_14 (lv_at hl 3 rfl) ?_
        refine lv_sipush (v := 512) hx hb dX5_innerEnds_16 (by decide) ?_
        refine g_callVi (As := [.int x4, .int 512]) (rest := []) ⟨hx, hb, hml, hown, hB⟩ hK hX aA_hA hH (c0 := c0) (tX5_has hc0 h) (cwV 2 hB gVX5_44 rfl rfl rfl (by decide +kernel) ⟨Nat.le_of_ble_eq_true rfl, Nat.le_of_ble_eq_true rfl⟩) hc0.1 rfl rfl hl.1 rfl (lv_room (Nat.le_of_ble_eq_true rfl)) ⟨Nat.zero_le _, Nat.zero_le _⟩ dX5_innerEnds_19 (fun r2 σ2 H locs h hH => ?_)
        refine lv_if_eq (tgt := 28) hx hb dX5_innerEnds_22 (by decide) (fun q3 => ?_) (fun q3 => ?_)
        · replace h := h.1 q3
          exact L28 c0 hc0 x2 x3 x4 σ2 _ _ ls hH (lv_sub hl [0, 1, 2, 3] rfl) h
        · replace h := h.2 q3
          obtain ⟨x3_4, ex3_4⟩ : ∃ y : Int32, y = x3 + 1 := ⟨_, rfl⟩
          replace h := h x3_4 ex3_4
          refine lv_iinc (v := x3_4) (lv' := [(3, .int x3_4), (0, .ref (ga G c0)), (2, .int x2), (4, .int x4)]) hx hb dX5_innerEnds_25 hl (k := 2) rfl (by rw [ex3_4]; rfl) (by decide) rfl (fun ls hl => ?_)
          exact L28 c0 hc0 x2 x3_4 x4 σ2 _ _ ls hH (lv_sub hl [1, 2, 0, 3] rfl) h
  unfold wpX5_innerEnds at h
  refine lv_iconst (v := 0) hx hb dX5_innerEnds_0 (by decide) ?_
  refine lv_istore_n (lv' := [(3, .int 0), (0, .ref (ga G c0)), (1, .int x1), (2, .int x2)]) hx hb dX5_innerEnds_1 rfl hl (by decide) rfl (fun ls hl => ?_)
  refine lv_iload_n hx hb dX5_innerEnds_2 rfl (lv_at hl 2 rfl) ?_
  refine lv_istore (lv' := [(4, .int x1), (3, .int 0), (0, .ref (ga G c0)), (1, .int x1), (2, .int x2)]) hx hb dX5_innerEnds_3 hl (by decide) rfl (fun ls hl => ?_)
  obtain ⟨nn, h⟩ := h
  exact L5 nn c0 hc0 x2 0 x1 σ _ _ ls hH (lv_sub hl [2, 4, 1, 0] rfl) h
def wpX5_fitting_L39 (Q : Int32 → Sg → Prop) (K6 : Nat → Int32 → Int32 → Int32 → Int32 → Sg → Prop) (c0 : Nat) (x1 : Int32) (x2 : Int32) (x5 : Int32) (z0 : Int32) (z1 : Int32) (σ : Sg) : Prop := ∀ x4_5 : Int32, x4_5 = z1 - z0 → ((0 ≤ x4_5 → ∀ x5_7 : Int32, x5_7 = x5 + 1 → K6 c0 x1 x2 x4_5 x5_7 σ) ∧ (¬ (0 ≤ x4_5) → Q x5 σ))
def wpX5_fitting_L38 (Q : Int32 → Sg → Prop) (K6 : Nat → Int32 → Int32 → Int32 → Int32 → Sg → Prop) (c0 : Nat) (x1 : Int32) (x2 : Int32) (x5 : Int32) (z0 : Int32) (σ : Sg) : Prop := wpX5_fitting_L39 Q K6 c0 x1 x2 x5 1 z0 σ
def wpX5_fitting_L6 (Q : Int32 → Sg → Prop) : Nat → Nat → Int32 → Int32 → Int32 → Int32 → Sg → Prop
  | 0, _, _, _, _, _, _ => False
  | n + 1, c0, x1, x2, x4, x5, σ => ((x2 ≤ x5 → Q x2 σ) ∧ (¬ (x2 ≤ x5) → ((x5 ≤ x1 → wpX5_fitting_L38 Q (wpX5_fitting_L6 Q n) c0 x1 x2 x5 x4 σ) ∧ (¬ (x5 ≤ x1) → wpX5_has c0 (x5 - 1) 512 σ (fun r3 σ3 => ((r3 = 0 → wpX5_fitting_L38 Q (wpX5_fitting_L6 Q n) c0 x1 x2 x5 x4 σ3) ∧ (¬ (r3 = 0) → wpX5_fitting_L39 Q (wpX5_fitting_L6 Q n) c0 x1 x2 x5 2 x4 σ3)))))))
def wpX5_fitting (c0 : Nat) (x1 : Int32) (x2 : Int32) (x3 : Int32) (σ : Sg) (Q : Int32 → Sg → Prop) : Prop := ∃ nn, wpX5_fitting_L6 Q nn c0 x1 x2 x3 x1 σ
set_option maxHeartbeats 8000000 in
set_option maxRecDepth 100000 in
theorem tX5_fitting {l : Launch} {G : GG} {c0 : Nat} {x1 : Int32} {x2 : Int32} {x3 : Int32} {σ : Sg} {Q : Int32 → Sg → Prop} (hc0 : isPiece G c0) (h : wpX5_fitting c0 x1 x2 x3 σ Q) : Ki l G yX5_fitting (wB yX5_fitting prog_7_method_11_code 6 (Option.some FieldType.int)) ({ frames := 1, cells := 0, slots := 0, locals := 22 }) [.ref (ga G c0), .int x1, .int x2, .int x3] σ Q := by
  refine K_of (cc := cX5_fitting) (maxL := 6) (ret := (some .int)) (by decide) rfl (Nat.le_of_ble_eq_true rfl) ?_
  intro p e s m args below meth c ls B hH hl
  obtain ⟨hx, hb, hr, hts, hown, hlk, hml, hK, hX⟩ := B
  replace hl : lv_has ls 6 [(0, .ref (ga G c0)), (1, .int x1), (2, .int x2), (3, .int x3)] := hl
  have hB : ∀ w ∈ BIG, w.before args s = true := fun w h9 => hts w (List.mem_cons_of_mem _ h9)
  clear hts
  have L6 : ∀ (n6 : Nat) (c0 : Nat) (hc0 : isPiece G c0) (x1 : Int32) (x2 : Int32) (x4 : Int32) (x5 : Int32) (σ : Sg) (H : Heap) (locs : List Loc) (ls : Array Slot), Hx G (aA G s.heap.size) s σ H locs → lv_has ls 6 [(0, .ref (ga G c0)), (1, .int x1), (2, .int x2), (4, .int x4), (5, .int x5)] → wpX5_fitting_L6 Q n6 c0 x1 x2 x4 x5 σ → W p l e ({ frames := 1, cells := 0, slots := 0, locals := 22 }) s m args below meth c H locs 0 0 (Zi G Q below args s) (F0 m 6 ls []) := by
    intro n6
    induction n6 with
    | zero =>
      intro c0 hc0 x1 x2 x4 x5 σ H locs ls hH hl h
      exact False.elim h
    | succ n6 ih6 =>
      have L39 : ∀ (c0 : Nat) (hc0 : isPiece G c0) (x1 : Int32) (x2 : Int32) (x5 : Int32) (z0 : Int32) (z1 : Int32) (σ : Sg) (H : Heap) (locs : List Loc) (ls : Array Slot), Hx G (aA G s.heap.size) s σ H locs → lv_has ls 6 [(0, .ref (ga G c0)), (1, .int x1), (2, .int x2), (5, .int x5)] → wpX5_fitting_L39 Q (wpX5_fitting_L6 Q n6) c0 x1 x2 x5 z0 z1 σ → W p l e ({ frames := 1, cells := 0, slots := 0, locals := 22 }) s m args below meth c H locs 0 0 (Zi G Q below args s) (F0 m 39 ls [.int z0, .int z1]) := by
        intro c0 hc0 x1 x2 x5 z0 z1 σ H locs ls hH hl h
        unfold wpX5_fitting_L39 at h
        refine lv_isub hx hb dX5_fitting_39 ?_
        refine lv_topi (fun x4_5 ex4_5 => ?_)
        replace h := h x4_5 ex4_5
        refine lv_istore (lv' := [(4, .int x4_5), (0, .ref (ga G c0)), (1, .int x1), (2, .int x2), (5, .int x5)]) hx hb dX5_fitting_40 hl (by decide) rfl (fun ls hl => ?_)
        refine lv_iload hx hb dX5_fitting_42 (lv_at hl 0 rfl) ?_
        refine lv_if_ge (tgt := 50) hx hb dX5_fitting_44 (by decide) (fun q6 => ?_) (fun q6 => ?_)
        · replace h := h.1 q6
          obtain ⟨x5_7, ex5_7⟩ : ∃ y : Int32, y = x5 + 1 := ⟨_, rfl⟩
          replace h := h x5_7 ex5_7
          refine lv_iinc (v := x5_7) (lv' := [(5, .int x5_7), (4, .int x4_5), (0, .ref (ga G c0)), (1, .int x1), (2, .int x2)]) hx hb dX5_fitting_50 hl (k := 4) rfl (by rw [ex5_7]; rfl) (by decide) rfl (fun ls hl => ?_)
          refine lv_goto (tgt := 6) hx hb dX5_fitting_53 (by decide) ?_
          exact ih6 c0 hc0 x1 x2 x4_5 x5_7 σ _ _ ls hH (lv_sub hl [2, 3, 4, 1, 0] rfl) h
        · replace h := h.2 q6
          refine lv_iload hx hb dX5_fitting_47 (lv_at hl 4 rfl) ?_
          exact g_iret hx hb hr hK hlk h hH dX5_fitting_49
      have L38 : ∀ (c0 : Nat) (hc0 : isPiece G c0) (x1 : Int32) (x2 : Int32) (x5 : Int32) (z0 : Int32) (σ : Sg) (H : Heap) (locs : List Loc) (ls : Array Slot), Hx G (aA G s.heap.size) s σ H locs → lv_has ls 6 [(0, .ref (ga G c0)), (1, .int x1), (2, .int x2), (5, .int x5)] → wpX5_fitting_L38 Q (wpX5_fitting_L6 Q n6) c0 x1 x2 x5 z0 σ → W p l e ({ frames := 1, cells := 0, slots := 0, locals := 22 }) s m args below meth c H locs 0 0 (Zi G Q below args s) (F0 m 38 ls [.int z0]) := by
        intro c0 hc0 x1 x2 x5 z0 σ H locs ls hH hl h
        unfold wpX5_fitting_L38 at h
        refine lv_iconst (v := 1) hx hb dX5_fitting_38 (by decide) ?_
        exact L39 c0 hc0 x1 x2 x5 1 z0 σ _ _ ls hH (lv_sub hl [0, 1, 2, 3] rfl) h
      intro c0 hc0 x1 x2 x4 x5 σ H locs ls hH hl h
      unfold wpX5_fitting_L6 at h
      refine lv_iload hx hb dX5_fitting_6 (lv_at hl 4 rfl) ?_
      refine lv_iload_n hx hb dX5_fitting_8 rfl (lv_at hl 2 rfl) ?_
      refine lv_icmp_ge (tgt := 56) hx hb dX5_fitting_9 (by decide) (fun q1 => ?_) (fun q1 => ?_)
      · replace h := h.1 q1
        refine lv_iload_n hx hb dX5_fitting_56 rfl (lv_at hl 2 rfl) ?_
        exact g_iret hx hb hr hK hlk h hH dX5_fitting_57
      · replace h := h.2 q1
        refine lv_iload hx hb dX5_fitting_12 (lv_at hl 3 rfl) ?_
        refine lv_iload hx hb dX5_fitting_14 (lv_at hl 4 rfl) ?_
        refine lv_iload_n hx hb dX5_fitting_16 rfl (lv_at hl 1 rfl) ?_
        refine lv_icmp_le (tgt := 38) hx hb dX5_fitting_17 (by decide) (fun q2 => ?_) (fun q2 => ?_)
        · replace h := h.1 q2
          exact L38 c0 hc0 x1 x2 x5 x4 σ _ _ ls hH (lv_sub hl [0, 1, 2, 4] rfl) h
        · replace h := h.2 q2
          refine lv_aload_n hx hb dX5_fitting_20 rfl (lv_at hl 0 rfl) ?_
          refine lv_iload hx hb dX5_fitting_21 (lv_at hl 4 rfl) ?_
          refine lv_iconst (v := 1) hx hb dX5_fitting_23 (by decide) ?_
          refine lv_isub hx hb dX5_fitting_24 ?_
          refine lv_sipush (v := 512) hx hb dX5_fitting_25 (by decide) ?_
          refine g_callVi (As := [.int (x5 - 1), .int 512]) (rest := [.int x4]) ⟨hx, hb, hml, hown, hB⟩ hK hX aA_hA hH (c0 := c0) (tX5_has hc0 h) (cwV 2 hB gVX5_44 rfl rfl rfl (by decide +kernel) ⟨Nat.le_of_ble_eq_true rfl, Nat.le_of_ble_eq_true rfl⟩) hc0.1 rfl rfl hl.1 rfl (lv_room (Nat.le_of_ble_eq_true rfl)) ⟨Nat.zero_le _, Nat.zero_le _⟩ dX5_fitting_28 (fun r3 σ3 H locs h hH => ?_)
          refine lv_if_eq (tgt := 38) hx hb dX5_fitting_31 (by decide) (fun q4 => ?_) (fun q4 => ?_)
          · replace h := h.1 q4
            exact L38 c0 hc0 x1 x2 x5 x4 σ3 _ _ ls hH (lv_sub hl [0, 1, 2, 4] rfl) h
          · replace h := h.2 q4
            refine lv_iconst (v := 2) hx hb dX5_fitting_34 (by decide) ?_
            refine lv_goto (tgt := 39) hx hb dX5_fitting_35 (by decide) ?_
            exact L39 c0 hc0 x1 x2 x5 2 x4 σ3 _ _ ls hH (lv_sub hl [0, 1, 2, 4] rfl) h
  unfold wpX5_fitting at h
  refine lv_iload_n hx hb dX5_fitting_0 rfl (lv_at hl 3 rfl) ?_
  refine lv_istore (lv' := [(4, .int x3), (0, .ref (ga G c0)), (1, .int x1), (2, .int x2), (3, .int x3)]) hx hb dX5_fitting_1 hl (by decide) rfl (fun ls hl => ?_)
  refine lv_iload_n hx hb dX5_fitting_3 rfl (lv_at hl 2 rfl) ?_
  refine lv_istore (lv' := [(5, .int x1), (4, .int x3), (0, .ref (ga G c0)), (1, .int x1), (2, .int x2), (3, .int x3)]) hx hb dX5_fitting_4 hl (by decide) rfl (fun ls hl => ?_)
  obtain ⟨nn, h⟩ := h
  exact L6 nn c0 hc0 x1 x2 x3 x1 σ _ _ ls hH (lv_sub hl [2, 3, 4, 1, 0] rfl) h
def wpX5_reach (c0 : Nat) (σ : Sg) (Q : Int32 → Sg → Prop) : Prop := ((¬ (σ c0 1) = (-1) → Q (σ c0 1) σ) ∧ ((σ c0 1) = (-1) → Q 240 σ))
set_option maxHeartbeats 8000000 in
set_option maxRecDepth 100000 in
theorem tX5_reach {l : Launch} {G : GG} {c0 : Nat} {σ : Sg} {Q : Int32 → Sg → Prop} (hc0 : isPiece G c0) (h : wpX5_reach c0 σ Q) : Ki l G yX5_reach (wB yX5_reach prog_7_method_12_code 1 (Option.some FieldType.int)) ({ frames := 0, cells := 0, slots := 0, locals := 0 }) [.ref (ga G c0)] σ Q := by
  refine K_of (cc := cX5_reach) (maxL := 1) (ret := (some .int)) (by decide) rfl (Nat.le_of_ble_eq_true rfl) ?_
  intro p e s m args below meth c ls B hH hl
  obtain ⟨hx, hb, hr, hts, hown, hlk, hml, hK, hX⟩ := B
  replace hl : lv_has ls 1 [(0, .ref (ga G c0))] := hl
  have hB : ∀ w ∈ BIG, w.before args s = true := fun w h9 => hts w (List.mem_cons_of_mem _ h9)
  clear hts
  have k21 := hB _ bw1_120
  unfold wpX5_reach at h
  refine lv_aload_n hx hb dX5_reach_0 rfl (lv_at hl 0 rfl) ?_
  refine g_geti hx hb hB inB5 hown hK hH (c0 := c0) hc0.1 rfl 1 (by decide) k21 rfl rfl dX5_reach_1 ?_
  refine lv_iconst (v := (-1)) hx hb dX5_reach_4 (by decide) ?_
  refine lv_icmp_ne (tgt := 14) hx hb dX5_reach_5 (by decide) (fun q1 => ?_) (fun q1 => ?_)
  · replace h := h.1 q1
    refine lv_aload_n hx hb dX5_reach_14 rfl (lv_at hl 0 rfl) ?_
    refine g_geti hx hb hB inB5 hown hK hH (c0 := c0) hc0.1 rfl 1 (by decide) k21 rfl rfl dX5_reach_15 ?_
    exact g_iret hx hb hr hK hlk h hH dX5_reach_18
  · replace h := h.2 q1
    refine lv_sipush (v := 240) hx hb dX5_reach_8 (by decide) ?_
    refine lv_goto (tgt := 18) hx hb dX5_reach_11 (by decide) ?_
    exact g_iret hx hb hr hK hlk h hH dX5_reach_18
def wpX5_missingRuns_L15 (Q : Int32 → Sg → Prop) : Nat → Nat → Int32 → Int32 → Int32 → Sg → Prop
  | 0, _, _, _, _, _ => False
  | n + 1, c0, x1, x2, x3, σ => ((240 ≤ x3 → Q x1 σ) ∧ (¬ (240 ≤ x3) → wpX5_reach c0 σ (fun r4 σ4 => ((r4 ≤ x2 → Q x1 σ4) ∧ (¬ (r4 ≤ x2) → ∀ x1_6 : Int32, x1_6 = x1 + 1 → wpX5_reach c0 σ4 (fun r7 σ7 => wpX5_nextMark c0 x2 r7 1 σ7 (fun r8 σ8 => wpX5_reach c0 σ8 (fun r9 σ9 => wpX5_nextMark c0 r8 r9 0 σ9 (fun r10 σ10 => ∀ x3_11 : Int32, x3_11 = x3 + 1 → (wpX5_missingRuns_L15 Q n) c0 x1_6 r10 x3_11 σ10)))))))))
def wpX5_missingRuns (c0 : Nat) (σ : Sg) (Q : Int32 → Sg → Prop) : Prop := wpX5_reach c0 σ (fun r1 σ1 => wpX5_nextMark c0 0 r1 0 σ1 (fun r2 σ2 => ∃ nn, wpX5_missingRuns_L15 Q nn c0 0 r2 0 σ2))
set_option maxHeartbeats 8000000 in
set_option maxRecDepth 100000 in
theorem tX5_missingRuns {l : Launch} {G : GG} {c0 : Nat} {σ : Sg} {Q : Int32 → Sg → Prop} (hc0 : isPiece G c0) (h : wpX5_missingRuns c0 σ Q) : Ki l G yX5_missingRuns (wB yX5_missingRuns prog_7_method_13_code 4 (Option.some FieldType.int)) ({ frames := 2, cells := 0, slots := 0, locals := 37 }) [.ref (ga G c0)] σ Q := by
  refine K_of (cc := cX5_missingRuns) (maxL := 4) (ret := (some .int)) (by decide) rfl (Nat.le_of_ble_eq_true rfl) ?_
  intro p e s m args below meth c ls B hH hl
  obtain ⟨hx, hb, hr, hts, hown, hlk, hml, hK, hX⟩ := B
  replace hl : lv_has ls 4 [(0, .ref (ga G c0))] := hl
  have hB : ∀ w ∈ BIG, w.before args s = true := fun w h9 => hts w (List.mem_cons_of_mem _ h9)
  clear hts
  have L15 : ∀ (n15 : Nat) (c0 : Nat) (hc0 : isPiece G c0) (x1 : Int32) (x2 : Int32) (x3 : Int32) (σ : Sg) (H : Heap) (locs : List Loc) (ls : Array Slot), Hx G (aA G s.heap.size) s σ H locs → lv_has ls 4 [(0, .ref (ga G c0)), (1, .int x1), (2, .int x2), (3, .int x3)] → wpX5_missingRuns_L15 Q n15 c0 x1 x2 x3 σ → W p l e ({ frames := 2, cells := 0, slots := 0, locals := 37 }) s m args below meth c H locs 0 0 (Zi G Q below args s) (F0 m 15 ls []) := by
    intro n15
    induction n15 with
    | zero =>
      intro c0 hc0 x1 x2 x3 σ H locs ls hH hl h
      exact False.elim h
    | succ n15 ih15 =>
      intro c0 hc0 x1 x2 x3 σ H locs ls hH hl h
      unfold wpX5_missingRuns_L15 at h
      refine lv_iload_n hx hb dX5_missingRuns_15 rfl (lv_at hl 3 rfl) ?_
      refine lv_sipush (v := 240) hx hb dX5_missingRuns_16 (by decide) ?_
      refine lv_icmp_ge (tgt := 59) hx hb dX5_missingRuns_19 (by decide) (fun q3 => ?_) (fun q3 => ?_)
      · replace h := h.1 q3
        refine lv_iload_n hx hb dX5_missingRuns_59 rfl (lv_at hl 1 rfl) ?_
        exact g_iret hx hb hr hK hlk h hH dX5_missingRuns_60
      · replace h := h.2 q3
        refine lv_iload_n hx hb dX5_missingRuns_22 rfl (lv_at hl 2 rfl) ?_
        refine lv_aload_n hx hb dX5_missingRuns_23 rfl (lv_at hl 0 rfl) ?_
        refine g_callVi (As := []) (rest := [.int x2]) ⟨hx, hb, hml, hown, hB⟩ hK hX aA_hA hH (c0 := c0) (tX5_reach hc0 h) (cwV 0 hB gVX5_48 rfl rfl rfl (by decide +kernel) ⟨Nat.le_of_ble_eq_true rfl, Nat.le_of_ble_eq_true rfl⟩) hc0.1 rfl rfl hl.1 rfl (lv_room (Nat.le_of_ble_eq_true rfl)) ⟨Nat.zero_le _, Nat.zero_le _⟩ dX5_missingRuns_24 (fun r4 σ4 H locs h hH => ?_)
        refine lv_icmp_ge (tgt := 59) hx hb dX5_missingRuns_27 (by decide) (fun q5 => ?_) (fun q5 => ?_)
        · replace h := h.1 q5
          refine lv_iload_n hx hb dX5_missingRuns_59 rfl (lv_at hl 1 rfl) ?_
          exact g_iret hx hb hr hK hlk h hH dX5_missingRuns_60
        · replace h := h.2 q5
          obtain ⟨x1_6, ex1_6⟩ : ∃ y : Int32, y = x1 + 1 := ⟨_, rfl⟩
          replace h := h x1_6 ex1_6
          refine lv_iinc (v := x1_6) (lv' := [(1, .int x1_6), (0, .ref (ga G c0)), (2, .int x2), (3, .int x3)]) hx hb dX5_missingRuns_30 hl (k := 1) rfl (by rw [ex1_6]; rfl) (by decide) rfl (fun ls hl => ?_)
          refine lv_aload_n hx hb dX5_missingRuns_33 rfl (lv_at hl 1 rfl) ?_
          refine lv_aload_n hx hb dX5_missingRuns_34 rfl (lv_at hl 1 rfl) ?_
          refine lv_iload_n hx hb dX5_missingRuns_35 rfl (lv_at hl 2 rfl) ?_
          refine lv_aload_n hx hb dX5_missingRuns_36 rfl (lv_at hl 1 rfl) ?_
          refine g_callVi (As := []) (rest := [.int x2, .ref (ga G c0), .ref (ga G c0)]) ⟨hx, hb, hml, hown, hB⟩ hK hX aA_hA hH (c0 := c0) (tX5_reach hc0 h) (cwV 0 hB gVX5_48 rfl rfl rfl (by decide +kernel) ⟨Nat.le_of_ble_eq_true rfl, Nat.le_of_ble_eq_true rfl⟩) hc0.1 rfl rfl hl.1 rfl (lv_room (Nat.le_of_ble_eq_true rfl)) ⟨Nat.zero_le _, Nat.zero_le _⟩ dX5_missingRuns_37 (fun r7 σ7 H locs h hH => ?_)
          refine lv_iconst (v := 1) hx hb dX5_missingRuns_40 (by decide) ?_
          refine g_callVi (As := [.int x2, .int r7, .int 1]) (rest := [.ref (ga G c0)]) ⟨hx, hb, hml, hown, hB⟩ hK hX aA_hA hH (c0 := c0) (tX5_nextMark hc0 h) (cwV 3 hB gVX5_52 rfl rfl rfl (by decide +kernel) ⟨Nat.le_of_ble_eq_true rfl, Nat.le_of_ble_eq_true rfl⟩) hc0.1 rfl rfl hl.1 rfl (lv_room (Nat.le_of_ble_eq_true rfl)) ⟨Nat.zero_le _, Nat.zero_le _⟩ dX5_missingRuns_41 (fun r8 σ8 H locs h hH => ?_)
          refine lv_aload_n hx hb dX5_missingRuns_44 rfl (lv_at hl 1 rfl) ?_
          refine g_callVi (As := []) (rest := [.int r8, .ref (ga G c0)]) ⟨hx, hb, hml, hown, hB⟩ hK hX aA_hA hH (c0 := c0) (tX5_reach hc0 h) (cwV 0 hB gVX5_48 rfl rfl rfl (by decide +kernel) ⟨Nat.le_of_ble_eq_true rfl, Nat.le_of_ble_eq_true rfl⟩) hc0.1 rfl rfl hl.1 rfl (lv_room (Nat.le_of_ble_eq_true rfl)) ⟨Nat.zero_le _, Nat.zero_le _⟩ dX5_missingRuns_45 (fun r9 σ9 H locs h hH => ?_)
          refine lv_iconst (v := 0) hx hb dX5_missingRuns_48 (by decide) ?_
          refine g_callVi (As := [.int r8, .int r9, .int 0]) (rest := []) ⟨hx, hb, hml, hown, hB⟩ hK hX aA_hA hH (c0 := c0) (tX5_nextMark hc0 h) (cwV 3 hB gVX5_52 rfl rfl rfl (by decide +kernel) ⟨Nat.le_of_ble_eq_true rfl, Nat.le_of_ble_eq_true rfl⟩) hc0.1 rfl rfl hl.1 rfl (lv_room (Nat.le_of_ble_eq_true rfl)) ⟨Nat.zero_le _, Nat.zero_le _⟩ dX5_missingRuns_49 (fun r10 σ10 H locs h hH => ?_)
          refine lv_istore_n (lv' := [(2, .int r10), (1, .int x1_6), (0, .ref (ga G c0)), (3, .int x3)]) hx hb dX5_missingRuns_52 rfl hl (by decide) rfl (fun ls hl => ?_)
          obtain ⟨x3_11, ex3_11⟩ : ∃ y : Int32, y = x3 + 1 := ⟨_, rfl⟩
          replace h := h x3_11 ex3_11
          refine lv_iinc (v := x3_11) (lv' := [(3, .int x3_11), (2, .int r10), (1, .int x1_6), (0, .ref (ga G c0))]) hx hb dX5_missingRuns_53 hl (k := 3) rfl (by rw [ex3_11]; rfl) (by decide) rfl (fun ls hl => ?_)
          refine lv_goto (tgt := 15) hx hb dX5_missingRuns_56 (by decide) ?_
          exact ih15 c0 hc0 x1_6 r10 x3_11 σ10 _ _ ls hH (lv_sub hl [3, 2, 1, 0] rfl) h
  unfold wpX5_missingRuns at h
  refine lv_iconst (v := 0) hx hb dX5_missingRuns_0 (by decide) ?_
  refine lv_istore_n (lv' := [(1, .int 0), (0, .ref (ga G c0))]) hx hb dX5_missingRuns_1 rfl hl (by decide) rfl (fun ls hl => ?_)
  refine lv_aload_n hx hb dX5_missingRuns_2 rfl (lv_at hl 1 rfl) ?_
  refine lv_iconst (v := 0) hx hb dX5_missingRuns_3 (by decide) ?_
  refine lv_aload_n hx hb dX5_missingRuns_4 rfl (lv_at hl 1 rfl) ?_
  refine g_callVi (As := []) (rest := [.int 0, .ref (ga G c0)]) ⟨hx, hb, hml, hown, hB⟩ hK hX aA_hA hH (c0 := c0) (tX5_reach hc0 h) (cwV 0 hB gVX5_48 rfl rfl rfl (by decide +kernel) ⟨Nat.le_of_ble_eq_true rfl, Nat.le_of_ble_eq_true rfl⟩) hc0.1 rfl rfl hl.1 rfl (lv_room (Nat.le_of_ble_eq_true rfl)) ⟨Nat.zero_le _, Nat.zero_le _⟩ dX5_missingRuns_5 (fun r1 σ1 H locs h hH => ?_)
  refine lv_iconst (v := 0) hx hb dX5_missingRuns_8 (by decide) ?_
  refine g_callVi (As := [.int 0, .int r1, .int 0]) (rest := []) ⟨hx, hb, hml, hown, hB⟩ hK hX aA_hA hH (c0 := c0) (tX5_nextMark hc0 h) (cwV 3 hB gVX5_52 rfl rfl rfl (by decide +kernel) ⟨Nat.le_of_ble_eq_true rfl, Nat.le_of_ble_eq_true rfl⟩) hc0.1 rfl rfl hl.1 rfl (lv_room (Nat.le_of_ble_eq_true rfl)) ⟨Nat.zero_le _, Nat.zero_le _⟩ dX5_missingRuns_9 (fun r2 σ2 H locs h hH => ?_)
  refine lv_istore_n (lv' := [(2, .int r2), (1, .int 0), (0, .ref (ga G c0))]) hx hb dX5_missingRuns_12 rfl hl (by decide) rfl (fun ls hl => ?_)
  refine lv_iconst (v := 0) hx hb dX5_missingRuns_13 (by decide) ?_
  refine lv_istore_n (lv' := [(3, .int 0), (2, .int r2), (1, .int 0), (0, .ref (ga G c0))]) hx hb dX5_missingRuns_14 rfl hl (by decide) rfl (fun ls hl => ?_)
  obtain ⟨nn, h⟩ := h
  exact L15 nn c0 hc0 0 r2 0 σ2 _ _ ls hH (lv_sub hl [3, 2, 1, 0] rfl) h
def wpX5_writeMissing_L86 (Q : Sg → Prop) (K14 : Nat → Nat → Int32 → Int32 → Int32 → Sg → Prop) (c0 : Nat) (c1 : Nat) (x2 : Int32) (x4 : Int32) (x5 : Int32) (z0 : Int32) (y1 : Nat) (σ : Sg) : Prop := wpX0_put y1 z0 σ (fun σ12 => wpX5_reach c0 σ12 (fun r13 σ13 => wpX5_nextMark c0 x5 r13 0 σ13 (fun r14 σ14 => ∀ x4_15 : Int32, x4_15 = x4 + 1 → K14 c0 c1 x2 r14 x4_15 σ14)))
def wpX5_writeMissing_L82 (Q : Sg → Prop) (K14 : Nat → Nat → Int32 → Int32 → Int32 → Sg → Prop) (c0 : Nat) (c1 : Nat) (x2 : Int32) (x4 : Int32) (x5 : Int32) (y0 : Nat) (σ : Sg) : Prop := wpX5_writeMissing_L86 Q K14 c0 c1 x2 x4 x5 (x5 - 1) y0 σ
def wpX5_writeMissing_L14 (Q : Sg → Prop) : Nat → Nat → Nat → Int32 → Int32 → Int32 → Sg → Prop
  | 0, _, _, _, _, _, _ => False
  | n + 1, c0, c1, x2, x3, x4, σ => ((240 ≤ x4 → Q σ) ∧ (¬ (240 ≤ x4) → wpX5_reach c0 σ (fun r4 σ4 => ((r4 ≤ x3 → Q σ4) ∧ (¬ (r4 ≤ x3) → wpX5_reach c0 σ4 (fun r6 σ6 => wpX5_nextMark c0 x3 r6 1 σ6 (fun r7 σ7 => wpX0_put c1 ((x2 &&& 63) + 128) σ7 (fun σ8 => wpX0_put c1 x3 σ8 (fun σ9 => ((¬ (σ9 c0 1) = (-1) → wpX5_writeMissing_L82 Q (wpX5_writeMissing_L14 Q n) c0 c1 x2 x4 r7 c1 σ9) ∧ ((σ9 c0 1) = (-1) → ((¬ r7 = 240 → wpX5_writeMissing_L82 Q (wpX5_writeMissing_L14 Q n) c0 c1 x2 x4 r7 c1 σ9) ∧ (r7 = 240 → wpX5_writeMissing_L86 Q (wpX5_writeMissing_L14 Q n) c0 c1 x2 x4 r7 255 c1 σ9)))))))))))))
def wpX5_writeMissing (c0 : Nat) (c1 : Nat) (x2 : Int32) (σ : Sg) (Q : Sg → Prop) : Prop := wpX5_reach c0 σ (fun r1 σ1 => wpX5_nextMark c0 0 r1 0 σ1 (fun r2 σ2 => ∃ nn, wpX5_writeMissing_L14 Q nn c0 c1 x2 r2 0 σ2))
set_option maxHeartbeats 8000000 in
set_option maxRecDepth 100000 in
theorem tX5_writeMissing {l : Launch} {G : GG} {c0 : Nat} {c1 : Nat} {x2 : Int32} {σ : Sg} {Q : Sg → Prop} (hc0 : isPiece G c0) (hc1 : isAir G c1) (h : wpX5_writeMissing c0 c1 x2 σ Q) : Kv l G yX5_writeMissing (wB yX5_writeMissing prog_7_method_14_code 6 none) ({ frames := 2, cells := 0, slots := 0, locals := 37 }) [.ref (ga G c0), .ref (ga G c1), .int x2] σ Q := by
  refine K_of (cc := cX5_writeMissing) (maxL := 6) (ret := none) (by decide) rfl (Nat.le_of_ble_eq_true rfl) ?_
  intro p e s m args below meth c ls B hH hl
  obtain ⟨hx, hb, hr, hts, hown, hlk, hml, hK, hX⟩ := B
  replace hl : lv_has ls 6 [(0, .ref (ga G c0)), (1, .ref (ga G c1)), (2, .int x2)] := hl
  have hB : ∀ w ∈ BIG, w.before args s = true := fun w h9 => hts w (List.mem_cons_of_mem _ h9)
  clear hts
  have k21 := hB _ bw1_120
  have L14 : ∀ (n14 : Nat) (c0 : Nat) (hc0 : isPiece G c0) (c1 : Nat) (hc1 : isAir G c1) (x2 : Int32) (x3 : Int32) (x4 : Int32) (σ : Sg) (H : Heap) (locs : List Loc) (ls : Array Slot), Hx G (aA G s.heap.size) s σ H locs → lv_has ls 6 [(0, .ref (ga G c0)), (1, .ref (ga G c1)), (2, .int x2), (3, .int x3), (4, .int x4)] → wpX5_writeMissing_L14 Q n14 c0 c1 x2 x3 x4 σ → W p l e ({ frames := 2, cells := 0, slots := 0, locals := 37 }) s m args below meth c H locs 0 0 (Zv G Q below args s) (F0 m 14 ls []) := by
    intro n14
    induction n14 with
    | zero =>
      intro c0 hc0 c1 hc1 x2 x3 x4 σ H locs ls hH hl h
      exact False.elim h
    | succ n14 ih14 =>
      have L86 : ∀ (c0 : Nat) (hc0 : isPiece G c0) (c1 : Nat) (hc1 : isAir G c1) (x2 : Int32) (x4 : Int32) (x5 : Int32) (z0 : Int32) (y1 : Nat) (hy1 : isAir G y1) (σ : Sg) (H : Heap) (locs : List Loc) (ls : Array Slot), Hx G (aA G s.heap.size) s σ H locs → lv_has ls 6 [(0, .ref (ga G c0)), (1, .ref (ga G c1)), (2, .int x2), (4, .int x4), (5, .int x5)] → wpX5_writeMissing_L86 Q (wpX5_writeMissing_L14 Q n14) c0 c1 x2 x4 x5 z0 y1 σ → W p l e ({ frames := 2, cells := 0, slots := 0, locals := 37 }) s m args below meth c H locs 0 0 (Zv G Q below args s) (F0 m 86 ls [.int z0, .ref (ga G y1)]) := by
        intro c0 hc0 c1 hc1 x2 x4 x5 z0 y1 hy1 σ H locs ls hH hl h
        unfold wpX5_writeMissing_L86 at h
        refine g_callVv (As := [.int z0]) (rest := []) ⟨hx, hb, hml, hown, hB⟩ hK hX aA_hA hH (c0 := y1) (tX0_put hy1 h) (cwV 1 hB gVX5_56 rfl rfl rfl (by decide +kernel) ⟨Nat.le_of_ble_eq_true rfl, Nat.le_of_ble_eq_true rfl⟩) hy1.1 rfl rfl hl.1 rfl (lv_room (Nat.le_of_ble_eq_true rfl)) ⟨Nat.zero_le _, Nat.zero_le _⟩ dX5_writeMissing_86 (fun σ12 H locs h hH => ?_)
        refine lv_aload_n hx hb dX5_writeMissing_89 rfl (lv_at hl 0 rfl) ?_
        refine lv_iload hx hb dX5_writeMissing_90 (lv_at hl 4 rfl) ?_
        refine lv_aload_n hx hb dX5_writeMissing_92 rfl (lv_at hl 0 rfl) ?_
        refine g_callVi (As := []) (rest := [.int x5, .ref (ga G c0)]) ⟨hx, hb, hml, hown, hB⟩ hK hX aA_hA hH (c0 := c0) (tX5_reach hc0 h) (cwV 0 hB gVX5_48 rfl rfl rfl (by decide +kernel) ⟨Nat.le_of_ble_eq_true rfl, Nat.le_of_ble_eq_true rfl⟩) hc0.1 rfl rfl hl.1 rfl (lv_room (Nat.le_of_ble_eq_true rfl)) ⟨Nat.zero_le _, Nat.zero_le _⟩ dX5_writeMissing_93 (fun r13 σ13 H locs h hH => ?_)
        refine lv_iconst (v := 0) hx hb dX5_writeMissing_96 (by decide) ?_
        refine g_callVi (As := [.int x5, .int r13, .int 0]) (rest := []) ⟨hx, hb, hml, hown, hB⟩ hK hX aA_hA hH (c0 := c0) (tX5_nextMark hc0 h) (cwV 3 hB gVX5_52 rfl rfl rfl (by decide +kernel) ⟨Nat.le_of_ble_eq_true rfl, Nat.le_of_ble_eq_true rfl⟩) hc0.1 rfl rfl hl.1 rfl (lv_room (Nat.le_of_ble_eq_true rfl)) ⟨Nat.zero_le _, Nat.zero_le _⟩ dX5_writeMissing_97 (fun r14 σ14 H locs h hH => ?_)
        refine lv_istore_n (lv' := [(3, .int r14), (0, .ref (ga G c0)), (1, .ref (ga G c1)), (2, .int x2), (4, .int x4), (5, .int x5)]) hx hb dX5_writeMissing_100 rfl hl (by decide) rfl (fun ls hl => ?_)
        obtain ⟨x4_15, ex4_15⟩ : ∃ y : Int32, y = x4 + 1 := ⟨_, rfl⟩
        replace h := h x4_15 ex4_15
        refine lv_iinc (v := x4_15) (lv' := [(4, .int x4_15), (3, .int r14), (0, .ref (ga G c0)), (1, .ref (ga G c1)), (2, .int x2), (5, .int x5)]) hx hb dX5_writeMissing_101 hl (k := 4) rfl (by rw [ex4_15]; rfl) (by decide) rfl (fun ls hl => ?_)
        refine lv_goto (tgt := 14) hx hb dX5_writeMissing_104 (by decide) ?_
        exact ih14 c0 hc0 c1 hc1 x2 r14 x4_15 σ14 _ _ ls hH (lv_sub hl [2, 3, 4, 1, 0] rfl) h
      have L82 : ∀ (c0 : Nat) (hc0 : isPiece G c0) (c1 : Nat) (hc1 : isAir G c1) (x2 : Int32) (x4 : Int32) (x5 : Int32) (y0 : Nat) (hy0 : isAir G y0) (σ : Sg) (H : Heap) (locs : List Loc) (ls : Array Slot), Hx G (aA G s.heap.size) s σ H locs → lv_has ls 6 [(0, .ref (ga G c0)), (1, .ref (ga G c1)), (2, .int x2), (4, .int x4), (5, .int x5)] → wpX5_writeMissing_L82 Q (wpX5_writeMissing_L14 Q n14) c0 c1 x2 x4 x5 y0 σ → W p l e ({ frames := 2, cells := 0, slots := 0, locals := 37 }) s m args below meth c H locs 0 0 (Zv G Q below args s) (F0 m 82 ls [.ref (ga G y0)]) := by
        intro c0 hc0 c1 hc1 x2 x4 x5 y0 hy0 σ H locs ls hH hl h
        unfold wpX5_writeMissing_L82 at h
        refine lv_iload hx hb dX5_writeMissing_82 (lv_at hl 4 rfl) ?_
        refine lv_iconst (v := 1) hx hb dX5_writeMissing_84 (by decide) ?_
        refine lv_isub hx hb dX5_writeMissing_85 ?_
        exact L86 c0 hc0 c1 hc1 x2 x4 x5 (x5 - 1) y0 hy0 σ _ _ ls hH (lv_sub hl [0, 1, 2, 3, 4] rfl) h
      intro c0 hc0 c1 hc1 x2 x3 x4 σ H locs ls hH hl h
      unfold wpX5_writeMissing_L14 at h
      refine lv_iload hx hb dX5_writeMissing_14 (lv_at hl 4 rfl) ?_
      refine lv_sipush (v := 240) hx hb dX5_writeMissing_16 (by decide) ?_
      refine lv_icmp_ge (tgt := 107) hx hb dX5_writeMissing_19 (by decide) (fun q3 => ?_) (fun q3 => ?_)
      · replace h := h.1 q3
        exact g_vret hx hb hr hK hlk h hH dX5_writeMissing_107
      · replace h := h.2 q3
        refine lv_iload_n hx hb dX5_writeMissing_22 rfl (lv_at hl 3 rfl) ?_
        refine lv_aload_n hx hb dX5_writeMissing_23 rfl (lv_at hl 0 rfl) ?_
        refine g_callVi (As := []) (rest := [.int x3]) ⟨hx, hb, hml, hown, hB⟩ hK hX aA_hA hH (c0 := c0) (tX5_reach hc0 h) (cwV 0 hB gVX5_48 rfl rfl rfl (by decide +kernel) ⟨Nat.le_of_ble_eq_true rfl, Nat.le_of_ble_eq_true rfl⟩) hc0.1 rfl rfl hl.1 rfl (lv_room (Nat.le_of_ble_eq_true rfl)) ⟨Nat.zero_le _, Nat.zero_le _⟩ dX5_writeMissing_24 (fun r4 σ4 H locs h hH => ?_)
        refine lv_icmp_ge (tgt := 107) hx hb dX5_writeMissing_27 (by decide) (fun q5 => ?_) (fun q5 => ?_)
        · replace h := h.1 q5
          exact g_vret hx hb hr hK hlk h hH dX5_writeMissing_107
        · replace h := h.2 q5
          refine lv_aload_n hx hb dX5_writeMissing_30 rfl (lv_at hl 0 rfl) ?_
          refine lv_iload_n hx hb dX5_writeMissing_31 rfl (lv_at hl 3 rfl) ?_
          refine lv_aload_n hx hb dX5_writeMissing_32 rfl (lv_at hl 0 rfl) ?_
          refine g_callVi (As := []) (rest := [.int x3, .ref (ga G c0)]) ⟨hx, hb, hml, hown, hB⟩ hK hX aA_hA hH (c0 := c0) (tX5_reach hc0 h) (cwV 0 hB gVX5_48 rfl rfl rfl (by decide +kernel) ⟨Nat.le_of_ble_eq_true rfl, Nat.le_of_ble_eq_true rfl⟩) hc0.1 rfl rfl hl.1 rfl (lv_room (Nat.le_of_ble_eq_true rfl)) ⟨Nat.zero_le _, Nat.zero_le _⟩ dX5_writeMissing_33 (fun r6 σ6 H locs h hH => ?_)
          refine lv_iconst (v := 1) hx hb dX5_writeMissing_36 (by decide) ?_
          refine g_callVi (As := [.int x3, .int r6, .int 1]) (rest := []) ⟨hx, hb, hml, hown, hB⟩ hK hX aA_hA hH (c0 := c0) (tX5_nextMark hc0 h) (cwV 3 hB gVX5_52 rfl rfl rfl (by decide +kernel) ⟨Nat.le_of_ble_eq_true rfl, Nat.le_of_ble_eq_true rfl⟩) hc0.1 rfl rfl hl.1 rfl (lv_room (Nat.le_of_ble_eq_true rfl)) ⟨Nat.zero_le _, Nat.zero_le _⟩ dX5_writeMissing_37 (fun r7 σ7 H locs h hH => ?_)
          refine lv_istore (lv' := [(5, .int r7), (0, .ref (ga G c0)), (1, .ref (ga G c1)), (2, .int x2), (3, .int x3), (4, .int x4)]) hx hb dX5_writeMissing_40 hl (by decide) rfl (fun ls hl => ?_)
          refine lv_aload_n hx hb dX5_writeMissing_42 rfl (lv_at hl 2 rfl) ?_
          refine lv_iload_n hx hb dX5_writeMissing_43 rfl (lv_at hl 3 rfl) ?_
          refine lv_bipush (v := 63) hx hb dX5_writeMissing_44 (by decide) ?_
          refine lv_iand hx hb dX5_writeMissing_46 ?_
          refine lv_sipush (v := 128) hx hb dX5_writeMissing_47 (by decide) ?_
          refine lv_iadd hx hb dX5_writeMissing_50 ?_
          refine g_callVv (As := [.int ((x2 &&& 63) + 128)]) (rest := []) ⟨hx, hb, hml, hown, hB⟩ hK hX aA_hA hH (c0 := c1) (tX0_put hc1 h) (cwV 1 hB gVX5_56 rfl rfl rfl (by decide +kernel) ⟨Nat.le_of_ble_eq_true rfl, Nat.le_of_ble_eq_true rfl⟩) hc1.1 rfl rfl hl.1 rfl (lv_room (Nat.le_of_ble_eq_true rfl)) ⟨Nat.zero_le _, Nat.zero_le _⟩ dX5_writeMissing_51 (fun σ8 H locs h hH => ?_)
          refine lv_aload_n hx hb dX5_writeMissing_54 rfl (lv_at hl 2 rfl) ?_
          refine lv_iload_n hx hb dX5_writeMissing_55 rfl (lv_at hl 4 rfl) ?_
          refine g_callVv (As := [.int x3]) (rest := []) ⟨hx, hb, hml, hown, hB⟩ hK hX aA_hA hH (c0 := c1) (tX0_put hc1 h) (cwV 1 hB gVX5_56 rfl rfl rfl (by decide +kernel) ⟨Nat.le_of_ble_eq_true rfl, Nat.le_of_ble_eq_true rfl⟩) hc1.1 rfl rfl hl.1 rfl (lv_room (Nat.le_of_ble_eq_true rfl)) ⟨Nat.zero_le _, Nat.zero_le _⟩ dX5_writeMissing_56 (fun σ9 H locs h hH => ?_)
          refine lv_aload_n hx hb dX5_writeMissing_59 rfl (lv_at hl 2 rfl) ?_
          refine lv_aload_n hx hb dX5_writeMissing_60 rfl (lv_at hl 1 rfl) ?_
          refine g_geti hx hb hB inB5 hown hK hH (c0 := c0) hc0.1 rfl 1 (by decide) k21 rfl rfl dX5_writeMissing_61 ?_
          refine lv_iconst (v := (-1)) hx hb dX5_writeMissing_64 (by decide) ?_
          refine lv_icmp_ne (tgt := 82) hx hb dX5_writeMissing_65 (by decide) (fun q10 => ?_) (fun q10 => ?_)
          · replace h := h.1 q10
            exact L82 c0 hc0 c1 hc1 x2 x4 r7 c1 hc1 σ9 _ _ ls hH (lv_sub hl [1, 2, 3, 5, 0] rfl) h
          · replace h := h.2 q10
            refine lv_iload hx hb dX5_writeMissing_68 (lv_at hl 0 rfl) ?_
            refine lv_sipush (v := 240) hx hb dX5_writeMissing_70 (by decide) ?_
            refine lv_icmp_ne (tgt := 82) hx hb dX5_writeMissing_73 (by decide) (fun q11 => ?_) (fun q11 => ?_)
            · replace h := h.1 q11
              exact L82 c0 hc0 c1 hc1 x2 x4 r7 c1 hc1 σ9 _ _ ls hH (lv_sub hl [1, 2, 3, 5, 0] rfl) h
            · replace h := h.2 q11
              refine lv_sipush (v := 255) hx hb dX5_writeMissing_76 (by decide) ?_
              refine lv_goto (tgt := 86) hx hb dX5_writeMissing_79 (by decide) ?_
              exact L86 c0 hc0 c1 hc1 x2 x4 r7 255 c1 hc1 σ9 _ _ ls hH (lv_sub hl [1, 2, 3, 5, 0] rfl) h
  unfold wpX5_writeMissing at h
  refine lv_aload_n hx hb dX5_writeMissing_0 rfl (lv_at hl 0 rfl) ?_
  refine lv_iconst (v := 0) hx hb dX5_writeMissing_1 (by decide) ?_
  refine lv_aload_n hx hb dX5_writeMissing_2 rfl (lv_at hl 0 rfl) ?_
  refine g_callVi (As := []) (rest := [.int 0, .ref (ga G c0)]) ⟨hx, hb, hml, hown, hB⟩ hK hX aA_hA hH (c0 := c0) (tX5_reach hc0 h) (cwV 0 hB gVX5_48 rfl rfl rfl (by decide +kernel) ⟨Nat.le_of_ble_eq_true rfl, Nat.le_of_ble_eq_true rfl⟩) hc0.1 rfl rfl hl.1 rfl (lv_room (Nat.le_of_ble_eq_true rfl)) ⟨Nat.zero_le _, Nat.zero_le _⟩ dX5_writeMissing_3 (fun r1 σ1 H locs h hH => ?_)
  refine lv_iconst (v := 0) hx hb dX5_writeMissing_6 (by decide) ?_
  refine g_callVi (As := [.int 0, .int r1, .int 0]) (rest := []) ⟨hx, hb, hml, hown, hB⟩ hK hX aA_hA hH (c0 := c0) (tX5_nextMark hc0 h) (cwV 3 hB gVX5_52 rfl rfl rfl (by decide +kernel) ⟨Nat.le_of_ble_eq_true rfl, Nat.le_of_ble_eq_true rfl⟩) hc0.1 rfl rfl hl.1 rfl (lv_room (Nat.le_of_ble_eq_true rfl)) ⟨Nat.zero_le _, Nat.zero_le _⟩ dX5_writeMissing_7 (fun r2 σ2 H locs h hH => ?_)
  refine lv_istore_n (lv' := [(3, .int r2), (0, .ref (ga G c0)), (1, .ref (ga G c1)), (2, .int x2)]) hx hb dX5_writeMissing_10 rfl hl (by decide) rfl (fun ls hl => ?_)
  refine lv_iconst (v := 0) hx hb dX5_writeMissing_11 (by decide) ?_
  refine lv_istore (lv' := [(4, .int 0), (3, .int r2), (0, .ref (ga G c0)), (1, .ref (ga G c1)), (2, .int x2)]) hx hb dX5_writeMissing_12 hl (by decide) rfl (fun ls hl => ?_)
  obtain ⟨nn, h⟩ := h
  exact L14 nn c0 hc0 c1 hc1 x2 r2 0 σ2 _ _ ls hH (lv_sub hl [2, 3, 4, 1, 0] rfl) h
def wpX5_writeLengths_L63 (Q : Sg → Prop) (K10 : Nat → Nat → Int32 → Int32 → Int32 → Int32 → Sg → Prop) (c0 : Nat) (c1 : Nat) (x3 : Int32) (x5 : Int32) (x6 : Int32) (x7 : Int32) (σ : Sg) : Prop := ∀ x7_6 : Int32, x7_6 = x7 + 1 → K10 c0 c1 x3 x5 x6 x7_6 σ
def wpX5_writeLengths_L53 (Q : Sg → Prop) (K10 : Nat → Nat → Int32 → Int32 → Int32 → Int32 → Sg → Prop) (c0 : Nat) (c1 : Nat) (x3 : Int32) (x5 : Int32) (x7 : Int32) (z0 : Int32) (z1 : Int32) (y2 : Nat) (σ : Sg) : Prop := wpX0_put y2 (z1 + z0) σ (fun σ7 => ∀ x6_8 : Int32, x6_8 = x7 + 1 → wpX5_writeLengths_L63 Q K10 c0 c1 x3 x5 x6_8 x7 σ7)
def wpX5_writeLengths_L10 (Q : Sg → Prop) : Nat → Nat → Nat → Int32 → Int32 → Int32 → Int32 → Sg → Prop
  | 0, _, _, _, _, _, _, _ => False
  | n + 1, c0, c1, x3, x5, x6, x7, σ => (((x3 - 1) ≤ x7 → Q σ) ∧ (¬ ((x3 - 1) ≤ x7) → wpX5_has c0 x7 512 σ (fun r2 σ2 => ((r2 = 0 → wpX5_writeLengths_L63 Q (wpX5_writeLengths_L10 Q n) c0 c1 x3 x5 x6 x7 σ2) ∧ (¬ (r2 = 0) → ∀ x5_4 : Int32, x5_4 = x5 + (-1) → ((x5_4 ≤ 0 → wpX5_writeLengths_L53 Q (wpX5_writeLengths_L10 Q n) c0 c1 x3 x5_4 x7 0 ((x7 + 1) - x6) c1 σ2) ∧ (¬ (x5_4 ≤ 0) → wpX5_writeLengths_L53 Q (wpX5_writeLengths_L10 Q n) c0 c1 x3 x5_4 x7 128 ((x7 + 1) - x6) c1 σ2)))))))
def wpX5_writeLengths (c0 : Nat) (c1 : Nat) (x2 : Int32) (x3 : Int32) (x4 : Int32) (σ : Sg) (Q : Sg → Prop) : Prop := ∃ nn, wpX5_writeLengths_L10 Q nn c0 c1 x3 x4 x2 x2 σ
set_option maxHeartbeats 8000000 in
set_option maxRecDepth 100000 in
theorem tX5_writeLengths {l : Launch} {G : GG} {c0 : Nat} {c1 : Nat} {x2 : Int32} {x3 : Int32} {x4 : Int32} {σ : Sg} {Q : Sg → Prop} (hc0 : isPiece G c0) (hc1 : isAir G c1) (h : wpX5_writeLengths c0 c1 x2 x3 x4 σ Q) : Kv l G yX5_writeLengths (wB yX5_writeLengths prog_7_method_16_code 8 none) ({ frames := 1, cells := 0, slots := 0, locals := 22 }) [.ref (ga G c0), .ref (ga G c1), .int x2, .int x3, .int x4] σ Q := by
  refine K_of (cc := cX5_writeLengths) (maxL := 8) (ret := none) (by decide) rfl (Nat.le_of_ble_eq_true rfl) ?_
  intro p e s m args below meth c ls B hH hl
  obtain ⟨hx, hb, hr, hts, hown, hlk, hml, hK, hX⟩ := B
  replace hl : lv_has ls 8 [(0, .ref (ga G c0)), (1, .ref (ga G c1)), (2, .int x2), (3, .int x3), (4, .int x4)] := hl
  have hB : ∀ w ∈ BIG, w.before args s = true := fun w h9 => hts w (List.mem_cons_of_mem _ h9)
  clear hts
  have L10 : ∀ (n10 : Nat) (c0 : Nat) (hc0 : isPiece G c0) (c1 : Nat) (hc1 : isAir G c1) (x3 : Int32) (x5 : Int32) (x6 : Int32) (x7 : Int32) (σ : Sg) (H : Heap) (locs : List Loc) (ls : Array Slot), Hx G (aA G s.heap.size) s σ H locs → lv_has ls 8 [(0, .ref (ga G c0)), (1, .ref (ga G c1)), (3, .int x3), (5, .int x5), (6, .int x6), (7, .int x7)] → wpX5_writeLengths_L10 Q n10 c0 c1 x3 x5 x6 x7 σ → W p l e ({ frames := 1, cells := 0, slots := 0, locals := 22 }) s m args below meth c H locs 0 0 (Zv G Q below args s) (F0 m 10 ls []) := by
    intro n10
    induction n10 with
    | zero =>
      intro c0 hc0 c1 hc1 x3 x5 x6 x7 σ H locs ls hH hl h
      exact False.elim h
    | succ n10 ih10 =>
      have L63 : ∀ (c0 : Nat) (hc0 : isPiece G c0) (c1 : Nat) (hc1 : isAir G c1) (x3 : Int32) (x5 : Int32) (x6 : Int32) (x7 : Int32) (σ : Sg) (H : Heap) (locs : List Loc) (ls : Array Slot), Hx G (aA G s.heap.size) s σ H locs → lv_has ls 8 [(0, .ref (ga G c0)), (1, .ref (ga G c1)), (3, .int x3), (5, .int x5), (6, .int x6), (7, .int x7)] → wpX5_writeLengths_L63 Q (wpX5_writeLengths_L10 Q n10) c0 c1 x3 x5 x6 x7 σ → W p l e ({ frames := 1, cells := 0, slots := 0, locals := 22 }) s m args below meth c H locs 0 0 (Zv G Q below args s) (F0 m 63 ls []) := by
        intro c0 hc0 c1 hc1 x3 x5 x6 x7 σ H locs ls hH hl h
        unfold wpX5_writeLengths_L63 at h
        obtain ⟨x7_6, ex7_6⟩ : ∃ y : Int32, y = x7 + 1 := ⟨_, rfl⟩
        replace h := h x7_6 ex7_6
        refine lv_iinc (v := x7_6) (lv' := [(7, .int x7_6), (0, .ref (ga G c0)), (1, .ref (ga G c1)), (3, .int x3), (5, .int x5), (6, .int x6)]) hx hb dX5_writeLengths_63 hl (k := 5) rfl (by rw [ex7_6]; rfl) (by decide) rfl (fun ls hl => ?_)
        refine lv_goto (tgt := 10) hx hb dX5_writeLengths_66 (by decide) ?_
        exact ih10 c0 hc0 c1 hc1 x3 x5 x6 x7_6 σ _ _ ls hH (lv_sub hl [1, 2, 3, 4, 5, 0] rfl) h
      have L53 : ∀ (c0 : Nat) (hc0 : isPiece G c0) (c1 : Nat) (hc1 : isAir G c1) (x3 : Int32) (x5 : Int32) (x7 : Int32) (z0 : Int32) (z1 : Int32) (y2 : Nat) (hy2 : isAir G y2) (σ : Sg) (H : Heap) (locs : List Loc) (ls : Array Slot), Hx G (aA G s.heap.size) s σ H locs → lv_has ls 8 [(0, .ref (ga G c0)), (1, .ref (ga G c1)), (3, .int x3), (5, .int x5), (7, .int x7)] → wpX5_writeLengths_L53 Q (wpX5_writeLengths_L10 Q n10) c0 c1 x3 x5 x7 z0 z1 y2 σ → W p l e ({ frames := 1, cells := 0, slots := 0, locals := 22 }) s m args below meth c H locs 0 0 (Zv G Q below args s) (F0 m 53 ls [.int z0, .int z1, .ref (ga G y2)]) := by
        intro c0 hc0 c1 hc1 x3 x5 x7 z0 z1 y2 hy2 σ H locs ls hH hl h
        unfold wpX5_writeLengths_L53 at h
        refine lv_iadd hx hb dX5_writeLengths_53 ?_
        refine g_callVv (As := [.int (z1 + z0)]) (rest := []) ⟨hx, hb, hml, hown, hB⟩ hK hX aA_hA hH (c0 := y2) (tX0_put hy2 h) (cwV 1 hB gVX5_56 rfl rfl rfl (by decide +kernel) ⟨Nat.le_of_ble_eq_true rfl, Nat.le_of_ble_eq_true rfl⟩) hy2.1 rfl rfl hl.1 rfl (lv_room (Nat.le_of_ble_eq_true rfl)) ⟨Nat.zero_le _, Nat.zero_le _⟩ dX5_writeLengths_54 (fun σ7 H locs h hH => ?_)
        refine lv_iload hx hb dX5_writeLengths_57 (lv_at hl 4 rfl) ?_
        refine lv_iconst (v := 1) hx hb dX5_writeLengths_59 (by decide) ?_
        refine lv_iadd hx hb dX5_writeLengths_60 ?_
        refine lv_topi (fun x6_8 ex6_8 => ?_)
        replace h := h x6_8 ex6_8
        refine lv_istore (lv' := [(6, .int x6_8), (0, .ref (ga G c0)), (1, .ref (ga G c1)), (3, .int x3), (5, .int x5), (7, .int x7)]) hx hb dX5_writeLengths_61 hl (by decide) rfl (fun ls hl => ?_)
        exact L63 c0 hc0 c1 hc1 x3 x5 x6_8 x7 σ7 _ _ ls hH (lv_sub hl [1, 2, 3, 4, 0, 5] rfl) h
      intro c0 hc0 c1 hc1 x3 x5 x6 x7 σ H locs ls hH hl h
      unfold wpX5_writeLengths_L10 at h
      refine lv_iload hx hb dX5_writeLengths_10 (lv_at hl 5 rfl) ?_
      refine lv_iload_n hx hb dX5_writeLengths_12 rfl (lv_at hl 2 rfl) ?_
      refine lv_iconst (v := 1) hx hb dX5_writeLengths_13 (by decide) ?_
      refine lv_isub hx hb dX5_writeLengths_14 ?_
      refine lv_icmp_ge (tgt := 69) hx hb dX5_writeLengths_15 (by decide) (fun q1 => ?_) (fun q1 => ?_)
      · replace h := h.1 q1
        exact g_vret hx hb hr hK hlk h hH dX5_writeLengths_69
      · replace h := h.2 q1
        refine lv_aload_n hx hb dX5_writeLengths_18 rfl (lv_at hl 0 rfl) ?_
        refine lv_iload hx hb dX5_writeLengths_19 (lv_at hl 5 rfl) ?_
        refine lv_sipush (v := 512) hx hb dX5_writeLengths_21 (by decide) ?_
        refine g_callVi (As := [.int x7, .int 512]) (rest := []) ⟨hx, hb, hml, hown, hB⟩ hK hX aA_hA hH (c0 := c0) (tX5_has hc0 h) (cwV 2 hB gVX5_44 rfl rfl rfl (by decide +kernel) ⟨Nat.le_of_ble_eq_true rfl, Nat.le_of_ble_eq_true rfl⟩) hc0.1 rfl rfl hl.1 rfl (lv_room (Nat.le_of_ble_eq_true rfl)) ⟨Nat.zero_le _, Nat.zero_le _⟩ dX5_writeLengths_24 (fun r2 σ2 H locs h hH => ?_)
        refine lv_if_eq (tgt := 63) hx hb dX5_writeLengths_27 (by decide) (fun q3 => ?_) (fun q3 => ?_)
        · replace h := h.1 q3
          exact L63 c0 hc0 c1 hc1 x3 x5 x6 x7 σ2 _ _ ls hH (lv_sub hl [0, 1, 2, 3, 4, 5] rfl) h
        · replace h := h.2 q3
          obtain ⟨x5_4, ex5_4⟩ : ∃ y : Int32, y = x5 + (-1) := ⟨_, rfl⟩
          replace h := h x5_4 ex5_4
          refine lv_iinc (v := x5_4) (lv' := [(5, .int x5_4), (0, .ref (ga G c0)), (1, .ref (ga G c1)), (3, .int x3), (6, .int x6), (7, .int x7)]) hx hb dX5_writeLengths_30 hl (k := 3) rfl (by rw [ex5_4]; rfl) (by decide) rfl (fun ls hl => ?_)
          refine lv_aload_n hx hb dX5_writeLengths_33 rfl (lv_at hl 2 rfl) ?_
          refine lv_iload hx hb dX5_writeLengths_34 (lv_at hl 5 rfl) ?_
          refine lv_iconst (v := 1) hx hb dX5_writeLengths_36 (by decide) ?_
          refine lv_iadd hx hb dX5_writeLengths_37 ?_
          refine lv_iload hx hb dX5_writeLengths_38 (lv_at hl 4 rfl) ?_
          refine lv_isub hx hb dX5_writeLengths_40 ?_
          refine lv_iload hx hb dX5_writeLengths_41 (lv_at hl 0 rfl) ?_
          refine lv_if_le (tgt := 52) hx hb dX5_writeLengths_43 (by decide) (fun q5 => ?_) (fun q5 => ?_)
          · replace h := h.1 q5
            refine lv_iconst (v := 0) hx hb dX5_writeLengths_52 (by decide) ?_
            exact L53 c0 hc0 c1 hc1 x3 x5_4 x7 0 ((x7 + 1) - x6) c1 hc1 σ2 _ _ ls hH (lv_sub hl [1, 2, 3, 0, 5] rfl) h
          · replace h := h.2 q5
            refine lv_sipush (v := 128) hx hb dX5_writeLengths_46 (by decide) ?_
            refine lv_goto (tgt := 53) hx hb dX5_writeLengths_49 (by decide) ?_
            exact L53 c0 hc0 c1 hc1 x3 x5_4 x7 128 ((x7 + 1) - x6) c1 hc1 σ2 _ _ ls hH (lv_sub hl [1, 2, 3, 0, 5] rfl) h
  unfold wpX5_writeLengths at h
  refine lv_iload hx hb dX5_writeLengths_0 (lv_at hl 4 rfl) ?_
  refine lv_istore (lv' := [(5, .int x4), (0, .ref (ga G c0)), (1, .ref (ga G c1)), (2, .int x2), (3, .int x3), (4, .int x4)]) hx hb dX5_writeLengths_2 hl (by decide) rfl (fun ls hl => ?_)
  refine lv_iload_n hx hb dX5_writeLengths_4 rfl (lv_at hl 3 rfl) ?_
  refine lv_istore (lv' := [(6, .int x2), (5, .int x4), (0, .ref (ga G c0)), (1, .ref (ga G c1)), (2, .int x2), (3, .int x3), (4, .int x4)]) hx hb dX5_writeLengths_5 hl (by decide) rfl (fun ls hl => ?_)
  refine lv_iload_n hx hb dX5_writeLengths_7 rfl (lv_at hl 4 rfl) ?_
  refine lv_istore (lv' := [(7, .int x2), (6, .int x2), (5, .int x4), (0, .ref (ga G c0)), (1, .ref (ga G c1)), (2, .int x2), (3, .int x3), (4, .int x4)]) hx hb dX5_writeLengths_8 hl (by decide) rfl (fun ls hl => ?_)
  obtain ⟨nn, h⟩ := h
  exact L10 nn c0 hc0 c1 hc1 x3 x4 x2 x2 σ _ _ ls hH (lv_sub hl [3, 4, 6, 2, 1, 0] rfl) h
def wpX5_writeData_L163 (Q : Sg → Prop) : Nat → Nat → Nat → Int32 → Int32 → Sg → Prop
  | 0, _, _, _, _, _ => False
  | n + 1, c0, c1, x4, x8, σ => ((x4 ≤ x8 → Q σ) ∧ (¬ (x4 ≤ x8) → wpX5_cell c0 x8 σ (fun r19 σ19 => wpX0_put c1 (r19 &&& 255) σ19 (fun σ20 => ∀ x8_21 : Int32, x8_21 = x8 + 1 → (wpX5_writeData_L163 Q n) c0 c1 x4 x8_21 σ20))))
def wpX5_writeData_L150 (Q : Sg → Prop) (c0 : Nat) (c1 : Nat) (x3 : Int32) (x4 : Int32) (x7 : Int32) (σ : Sg) : Prop := wpX5_writeLengths c0 c1 x3 x4 x7 σ (fun σ17 => ∃ nn, wpX5_writeData_L163 Q nn c0 c1 x4 x3 σ17)
def wpX5_writeData_L136 (Q : Sg → Prop) (c0 : Nat) (c1 : Nat) (x3 : Int32) (x4 : Int32) (x6 : Int32) (x7 : Int32) (z0 : Int32) (z1 : Int32) (y2 : Nat) (σ : Sg) : Prop := wpX0_put y2 (z1 + z0) σ (fun σ14 => ((x6 = 0 → wpX5_writeData_L150 Q c0 c1 x3 x4 x7 σ14) ∧ (¬ (x6 = 0) → wpX0_put c1 x3 σ14 (fun σ16 => wpX5_writeData_L150 Q c0 c1 x3 x4 x7 σ16))))
def wpX5_writeData_L135 (Q : Sg → Prop) (c0 : Nat) (c1 : Nat) (x3 : Int32) (x4 : Int32) (x6 : Int32) (x7 : Int32) (z0 : Int32) (y1 : Nat) (σ : Sg) : Prop := wpX5_writeData_L136 Q c0 c1 x3 x4 x6 x7 0 z0 y1 σ
def wpX5_writeData_L106 (Q : Sg → Prop) (c0 : Nat) (c1 : Nat) (x2 : Int32) (x3 : Int32) (x4 : Int32) (x6 : Int32) (x7 : Int32) (z0 : Int32) (z1 : Int32) (y2 : Nat) (σ : Sg) : Prop := wpX0_put y2 (z1 + z0) σ (fun σ11 => ((x6 = 0 → wpX5_writeData_L135 Q c0 c1 x3 x4 x6 x7 (x2 &&& 63) c1 σ11) ∧ (¬ (x6 = 0) → ((¬ x4 = (σ11 c0 1) → wpX5_writeData_L135 Q c0 c1 x3 x4 x6 x7 (x2 &&& 63) c1 σ11) ∧ (x4 = (σ11 c0 1) → wpX5_writeData_L136 Q c0 c1 x3 x4 x6 x7 128 (x2 &&& 63) c1 σ11)))))
def wpX5_writeData_L95 (Q : Sg → Prop) (c0 : Nat) (c1 : Nat) (x2 : Int32) (x3 : Int32) (x4 : Int32) (x6 : Int32) (x7 : Int32) (z0 : Int32) (z1 : Int32) (y2 : Nat) (σ : Sg) : Prop := ((x7 ≤ 0 → wpX5_writeData_L106 Q c0 c1 x2 x3 x4 x6 x7 0 (z1 + z0) y2 σ) ∧ (¬ (x7 ≤ 0) → wpX5_writeData_L106 Q c0 c1 x2 x3 x4 x6 x7 4 (z1 + z0) y2 σ))
def wpX5_writeData_L74 (Q : Sg → Prop) (c0 : Nat) (c1 : Nat) (x2 : Int32) (x3 : Int32) (x4 : Int32) (x6 : Int32) (x7 : Int32) (z0 : Int32) (z1 : Int32) (y2 : Nat) (σ : Sg) : Prop := wpX5_has c0 (x4 - 1) 512 σ (fun r8 σ8 => ((r8 = 0 → wpX5_writeData_L95 Q c0 c1 x2 x3 x4 x6 x7 8 (z1 + z0) y2 σ8) ∧ (¬ (r8 = 0) → wpX5_writeData_L95 Q c0 c1 x2 x3 x4 x6 x7 0 (z1 + z0) y2 σ8)))
def wpX5_writeData_L56 (Q : Sg → Prop) (c0 : Nat) (c1 : Nat) (x2 : Int32) (x3 : Int32) (x4 : Int32) (x6 : Int32) (x7 : Int32) (z0 : Int32) (z1 : Int32) (y2 : Nat) (σ : Sg) : Prop := wpX5_has c0 x3 256 σ (fun r6 σ6 => ((r6 = 0 → wpX5_writeData_L74 Q c0 c1 x2 x3 x4 x6 x7 16 (z1 + z0) y2 σ6) ∧ (¬ (r6 = 0) → wpX5_writeData_L74 Q c0 c1 x2 x3 x4 x6 x7 0 (z1 + z0) y2 σ6)))
def wpX5_writeData_L44 (Q : Sg → Prop) (c0 : Nat) (c1 : Nat) (x2 : Int32) (x3 : Int32) (x4 : Int32) (x5 : Int32) (x6 : Int32) (x7 : Int32) (z0 : Int32) (z1 : Int32) (y2 : Nat) (σ : Sg) : Prop := ((x5 = 0 → wpX5_writeData_L56 Q c0 c1 x2 x3 x4 x6 x7 0 (z1 + z0) y2 σ) ∧ (¬ (x5 = 0) → wpX5_writeData_L56 Q c0 c1 x2 x3 x4 x6 x7 32 (z1 + z0) y2 σ))
def wpX5_writeData_L18 (Q : Sg → Prop) (c0 : Nat) (c1 : Nat) (x2 : Int32) (x3 : Int32) (x4 : Int32) (x5 : Int32) (z0 : Int32) (σ : Sg) : Prop := wpX5_innerEnds c0 x3 x4 σ (fun r3 σ3 => ((z0 = 0 → wpX5_writeData_L44 Q c0 c1 x2 x3 x4 x5 z0 r3 0 128 c1 σ3) ∧ (¬ (z0 = 0) → wpX5_writeData_L44 Q c0 c1 x2 x3 x4 x5 z0 r3 64 128 c1 σ3)))
def wpX5_writeData_L13 (Q : Sg → Prop) (c0 : Nat) (c1 : Nat) (x2 : Int32) (x3 : Int32) (x4 : Int32) (x5 : Int32) (σ : Sg) : Prop := wpX5_writeData_L18 Q c0 c1 x2 x3 x4 x5 1 σ
def wpX5_writeData (c0 : Nat) (c1 : Nat) (x2 : Int32) (x3 : Int32) (x4 : Int32) (x5 : Int32) (σ : Sg) (Q : Sg → Prop) : Prop := ((0 < x3 → wpX5_writeData_L13 Q c0 c1 x2 x3 x4 x5 σ) ∧ (¬ (0 < x3) → (((σ c0 1) ≤ x4 → wpX5_writeData_L18 Q c0 c1 x2 x3 x4 x5 0 σ) ∧ (¬ ((σ c0 1) ≤ x4) → wpX5_writeData_L13 Q c0 c1 x2 x3 x4 x5 σ))))
set_option maxHeartbeats 8000000 in
set_option maxRecDepth 100000 in
theorem tX5_writeData {l : Launch} {G : GG} {c0 : Nat} {c1 : Nat} {x2 : Int32} {x3 : Int32} {x4 : Int32} {x5 : Int32} {σ : Sg} {Q : Sg → Prop} (hc0 : isPiece G c0) (hc1 : isAir G c1) (h : wpX5_writeData c0 c1 x2 x3 x4 x5 σ Q) : Kv l G yX5_writeData (wB yX5_writeData prog_7_method_15_code 9 none) ({ frames := 2, cells := 0, slots := 0, locals := 49 }) [.ref (ga G c0), .ref (ga G c1), .int x2, .int x3, .int x4, .int x5] σ Q := by
  refine K_of (cc := cX5_writeData) (maxL := 9) (ret := none) (by decide) rfl (Nat.le_of_ble_eq_true rfl) ?_
  intro p e s m args below meth c ls B hH hl
  obtain ⟨hx, hb, hr, hts, hown, hlk, hml, hK, hX⟩ := B
  replace hl : lv_has ls 9 [(0, .ref (ga G c0)), (1, .ref (ga G c1)), (2, .int x2), (3, .int x3), (4, .int x4), (5, .int x5)] := hl
  have hB : ∀ w ∈ BIG, w.before args s = true := fun w h9 => hts w (List.mem_cons_of_mem _ h9)
  clear hts
  have k21 := hB _ bw1_120
  have L163 : ∀ (n163 : Nat) (c0 : Nat) (hc0 : isPiece G c0) (c1 : Nat) (hc1 : isAir G c1) (x4 : Int32) (x8 : Int32) (σ : Sg) (H : Heap) (locs : List Loc) (ls : Array Slot), Hx G (aA G s.heap.size) s σ H locs → lv_has ls 9 [(0, .ref (ga G c0)), (1, .ref (ga G c1)), (4, .int x4), (8, .int x8)] → wpX5_writeData_L163 Q n163 c0 c1 x4 x8 σ → W p l e ({ frames := 2, cells := 0, slots := 0, locals := 49 }) s m args below meth c H locs 0 0 (Zv G Q below args s) (F0 m 163 ls []) := by
    intro n163
    induction n163 with
    | zero =>
      intro c0 hc0 c1 hc1 x4 x8 σ H locs ls hH hl h
      exact False.elim h
    | succ n163 ih163 =>
      intro c0 hc0 c1 hc1 x4 x8 σ H locs ls hH hl h
      unfold wpX5_writeData_L163 at h
      refine lv_iload hx hb dX5_writeData_163 (lv_at hl 3 rfl) ?_
      refine lv_iload hx hb dX5_writeData_165 (lv_at hl 2 rfl) ?_
      refine lv_icmp_ge (tgt := 190) hx hb dX5_writeData_167 (by decide) (fun q18 => ?_) (fun q18 => ?_)
      · replace h := h.1 q18
        exact g_vret hx hb hr hK hlk h hH dX5_writeData_190
      · replace h := h.2 q18
        refine lv_aload_n hx hb dX5_writeData_170 rfl (lv_at hl 1 rfl) ?_
        refine lv_aload_n hx hb dX5_writeData_171 rfl (lv_at hl 0 rfl) ?_
        refine lv_iload hx hb dX5_writeData_172 (lv_at hl 3 rfl) ?_
        refine g_callVi (As := [.int x8]) (rest := [.ref (ga G c1)]) ⟨hx, hb, hml, hown, hB⟩ hK hX aA_hA hH (c0 := c0) (tX5_cell hc0 h) (cwV 1 hB gVX5_69 rfl rfl rfl (by decide +kernel) ⟨Nat.le_of_ble_eq_true rfl, Nat.le_of_ble_eq_true rfl⟩) hc0.1 rfl rfl hl.1 rfl (lv_room (Nat.le_of_ble_eq_true rfl)) ⟨Nat.zero_le _, Nat.zero_le _⟩ dX5_writeData_174 (fun r19 σ19 H locs h hH => ?_)
        refine lv_sipush (v := 255) hx hb dX5_writeData_177 (by decide) ?_
        refine lv_iand hx hb dX5_writeData_180 ?_
        refine g_callVv (As := [.int (r19 &&& 255)]) (rest := []) ⟨hx, hb, hml, hown, hB⟩ hK hX aA_hA hH (c0 := c1) (tX0_put hc1 h) (cwV 1 hB gVX5_56 rfl rfl rfl (by decide +kernel) ⟨Nat.le_of_ble_eq_true rfl, Nat.le_of_ble_eq_true rfl⟩) hc1.1 rfl rfl hl.1 rfl (lv_room (Nat.le_of_ble_eq_true rfl)) ⟨Nat.zero_le _, Nat.zero_le _⟩ dX5_writeData_181 (fun σ20 H locs h hH => ?_)
        obtain ⟨x8_21, ex8_21⟩ : ∃ y : Int32, y = x8 + 1 := ⟨_, rfl⟩
        replace h := h x8_21 ex8_21
        refine lv_iinc (v := x8_21) (lv' := [(8, .int x8_21), (0, .ref (ga G c0)), (1, .ref (ga G c1)), (4, .int x4)]) hx hb dX5_writeData_184 hl (k := 3) rfl (by rw [ex8_21]; rfl) (by decide) rfl (fun ls hl => ?_)
        refine lv_goto (tgt := 163) hx hb dX5_writeData_187 (by decide) ?_
        exact ih163 c0 hc0 c1 hc1 x4 x8_21 σ20 _ _ ls hH (lv_sub hl [1, 2, 3, 0] rfl) h
  have L150 : ∀ (c0 : Nat) (hc0 : isPiece G c0) (c1 : Nat) (hc1 : isAir G c1) (x3 : Int32) (x4 : Int32) (x7 : Int32) (σ : Sg) (H : Heap) (locs : List Loc) (ls : Array Slot), Hx G (aA G s.heap.size) s σ H locs → lv_has ls 9 [(0, .ref (ga G c0)), (1, .ref (ga G c1)), (3, .int x3), (4, .int x4), (7, .int x7)] → wpX5_writeData_L150 Q c0 c1 x3 x4 x7 σ → W p l e ({ frames := 2, cells := 0, slots := 0, locals := 49 }) s m args below meth c H locs 0 0 (Zv G Q below args s) (F0 m 150 ls []) := by
    intro c0 hc0 c1 hc1 x3 x4 x7 σ H locs ls hH hl h
    unfold wpX5_writeData_L150 at h
    refine lv_aload_n hx hb dX5_writeData_150 rfl (lv_at hl 0 rfl) ?_
    refine lv_aload_n hx hb dX5_writeData_151 rfl (lv_at hl 1 rfl) ?_
    refine lv_iload_n hx hb dX5_writeData_152 rfl (lv_at hl 2 rfl) ?_
    refine lv_iload hx hb dX5_writeData_153 (lv_at hl 3 rfl) ?_
    refine lv_iload hx hb dX5_writeData_155 (lv_at hl 4 rfl) ?_
    refine g_callVv (As := [.ref (ga G c1), .int x3, .int x4, .int x7]) (rest := []) ⟨hx, hb, hml, hown, hB⟩ hK hX aA_hA hH (c0 := c0) (tX5_writeLengths hc0 hc1 h) (cwV 4 hB gVX5_65 rfl rfl rfl (by decide +kernel) ⟨Nat.le_of_ble_eq_true rfl, Nat.le_of_ble_eq_true rfl⟩) hc0.1 rfl rfl hl.1 rfl (lv_room (Nat.le_of_ble_eq_true rfl)) ⟨Nat.zero_le _, Nat.zero_le _⟩ dX5_writeData_157 (fun σ17 H locs h hH => ?_)
    refine lv_iload_n hx hb dX5_writeData_160 rfl (lv_at hl 2 rfl) ?_
    refine lv_istore (lv' := [(8, .int x3), (0, .ref (ga G c0)), (1, .ref (ga G c1)), (3, .int x3), (4, .int x4), (7, .int x7)]) hx hb dX5_writeData_161 hl (by decide) rfl (fun ls hl => ?_)
    obtain ⟨nn, h⟩ := h
    exact L163 nn c0 hc0 c1 hc1 x4 x3 σ17 _ _ ls hH (lv_sub hl [1, 2, 4, 0] rfl) h
  have L136 : ∀ (c0 : Nat) (hc0 : isPiece G c0) (c1 : Nat) (hc1 : isAir G c1) (x3 : Int32) (x4 : Int32) (x6 : Int32) (x7 : Int32) (z0 : Int32) (z1 : Int32) (y2 : Nat) (hy2 : isAir G y2) (σ : Sg) (H : Heap) (locs : List Loc) (ls : Array Slot), Hx G (aA G s.heap.size) s σ H locs → lv_has ls 9 [(0, .ref (ga G c0)), (1, .ref (ga G c1)), (3, .int x3), (4, .int x4), (6, .int x6), (7, .int x7)] → wpX5_writeData_L136 Q c0 c1 x3 x4 x6 x7 z0 z1 y2 σ → W p l e ({ frames := 2, cells := 0, slots := 0, locals := 49 }) s m args below meth c H locs 0 0 (Zv G Q below args s) (F0 m 136 ls [.int z0, .int z1, .ref (ga G y2)]) := by
    intro c0 hc0 c1 hc1 x3 x4 x6 x7 z0 z1 y2 hy2 σ H locs ls hH hl h
    unfold wpX5_writeData_L136 at h
    refine lv_iadd hx hb dX5_writeData_136 ?_
    refine g_callVv (As := [.int (z1 + z0)]) (rest := []) ⟨hx, hb, hml, hown, hB⟩ hK hX aA_hA hH (c0 := y2) (tX0_put hy2 h) (cwV 1 hB gVX5_56 rfl rfl rfl (by decide +kernel) ⟨Nat.le_of_ble_eq_true rfl, Nat.le_of_ble_eq_true rfl⟩) hy2.1 rfl rfl hl.1 rfl (lv_room (Nat.le_of_ble_eq_true rfl)) ⟨Nat.zero_le _, Nat.zero_le _⟩ dX5_writeData_137 (fun σ14 H locs h hH => ?_)
    refine lv_iload hx hb dX5_writeData_140 (lv_at hl 4 rfl) ?_
    refine lv_if_eq (tgt := 150) hx hb dX5_writeData_142 (by decide) (fun q15 => ?_) (fun q15 => ?_)
    · replace h := h.1 q15
      exact L150 c0 hc0 c1 hc1 x3 x4 x7 σ14 _ _ ls hH (lv_sub hl [0, 1, 2, 3, 5] rfl) h
    · replace h := h.2 q15
      refine lv_aload_n hx hb dX5_writeData_145 rfl (lv_at hl 1 rfl) ?_
      refine lv_iload_n hx hb dX5_writeData_146 rfl (lv_at hl 2 rfl) ?_
      refine g_callVv (As := [.int x3]) (rest := []) ⟨hx, hb, hml, hown, hB⟩ hK hX aA_hA hH (c0 := c1) (tX0_put hc1 h) (cwV 1 hB gVX5_56 rfl rfl rfl (by decide +kernel) ⟨Nat.le_of_ble_eq_true rfl, Nat.le_of_ble_eq_true rfl⟩) hc1.1 rfl rfl hl.1 rfl (lv_room (Nat.le_of_ble_eq_true rfl)) ⟨Nat.zero_le _, Nat.zero_le _⟩ dX5_writeData_147 (fun σ16 H locs h hH => ?_)
      exact L150 c0 hc0 c1 hc1 x3 x4 x7 σ16 _ _ ls hH (lv_sub hl [0, 1, 2, 3, 5] rfl) h
  have L135 : ∀ (c0 : Nat) (hc0 : isPiece G c0) (c1 : Nat) (hc1 : isAir G c1) (x3 : Int32) (x4 : Int32) (x6 : Int32) (x7 : Int32) (z0 : Int32) (y1 : Nat) (hy1 : isAir G y1) (σ : Sg) (H : Heap) (locs : List Loc) (ls : Array Slot), Hx G (aA G s.heap.size) s σ H locs → lv_has ls 9 [(0, .ref (ga G c0)), (1, .ref (ga G c1)), (3, .int x3), (4, .int x4), (6, .int x6), (7, .int x7)] → wpX5_writeData_L135 Q c0 c1 x3 x4 x6 x7 z0 y1 σ → W p l e ({ frames := 2, cells := 0, slots := 0, locals := 49 }) s m args below meth c H locs 0 0 (Zv G Q below args s) (F0 m 135 ls [.int z0, .ref (ga G y1)]) := by
    intro c0 hc0 c1 hc1 x3 x4 x6 x7 z0 y1 hy1 σ H locs ls hH hl h
    unfold wpX5_writeData_L135 at h
    refine lv_iconst (v := 0) hx hb dX5_writeData_135 (by decide) ?_
    exact L136 c0 hc0 c1 hc1 x3 x4 x6 x7 0 z0 y1 hy1 σ _ _ ls hH (lv_sub hl [0, 1, 2, 3, 4, 5] rfl) h
  have L106 : ∀ (c0 : Nat) (hc0 : isPiece G c0) (c1 : Nat) (hc1 : isAir G c1) (x2 : Int32) (x3 : Int32) (x4 : Int32) (x6 : Int32) (x7 : Int32) (z0 : Int32) (z1 : Int32) (y2 : Nat) (hy2 : isAir G y2) (σ : Sg) (H : Heap) (locs : List Loc) (ls : Array Slot), Hx G (aA G s.heap.size) s σ H locs → lv_has ls 9 [(0, .ref (ga G c0)), (1, .ref (ga G c1)), (2, .int x2), (3, .int x3), (4, .int x4), (6, .int x6), (7, .int x7)] → wpX5_writeData_L106 Q c0 c1 x2 x3 x4 x6 x7 z0 z1 y2 σ → W p l e ({ frames := 2, cells := 0, slots := 0, locals := 49 }) s m args below meth c H locs 0 0 (Zv G Q below args s) (F0 m 106 ls [.int z0, .int z1, .ref (ga G y2)]) := by
    intro c0 hc0 c1 hc1 x2 x3 x4 x6 x7 z0 z1 y2 hy2 σ H locs ls hH hl h
    unfold wpX5_writeData_L106 at h
    refine lv_iadd hx hb dX5_writeData_106 ?_
    refine g_callVv (As := [.int (z1 + z0)]) (rest := []) ⟨hx, hb, hml, hown, hB⟩ hK hX aA_hA hH (c0 := y2) (tX0_put hy2 h) (cwV 1 hB gVX5_56 rfl rfl rfl (by decide +kernel) ⟨Nat.le_of_ble_eq_true rfl, Nat.le_of_ble_eq_true rfl⟩) hy2.1 rfl rfl hl.1 rfl (lv_room (Nat.le_of_ble_eq_true rfl)) ⟨Nat.zero_le _, Nat.zero_le _⟩ dX5_writeData_107 (fun σ11 H locs h hH => ?_)
    refine lv_aload_n hx hb dX5_writeData_110 rfl (lv_at hl 1 rfl) ?_
    refine lv_iload_n hx hb dX5_writeData_111 rfl (lv_at hl 2 rfl) ?_
    refine lv_bipush (v := 63) hx hb dX5_writeData_112 (by decide) ?_
    refine lv_iand hx hb dX5_writeData_114 ?_
    refine lv_iload hx hb dX5_writeData_115 (lv_at hl 5 rfl) ?_
    refine lv_if_eq (tgt := 135) hx hb dX5_writeData_117 (by decide) (fun q12 => ?_) (fun q12 => ?_)
    · replace h := h.1 q12
      exact L135 c0 hc0 c1 hc1 x3 x4 x6 x7 (x2 &&& 63) c1 hc1 σ11 _ _ ls hH (lv_sub hl [0, 1, 3, 4, 5, 6] rfl) h
    · replace h := h.2 q12
      refine lv_iload hx hb dX5_writeData_120 (lv_at hl 4 rfl) ?_
      refine lv_aload_n hx hb dX5_writeData_122 rfl (lv_at hl 0 rfl) ?_
      refine g_geti hx hb hB inB5 hown hK hH (c0 := c0) hc0.1 rfl 1 (by decide) k21 rfl rfl dX5_writeData_123 ?_
      refine lv_icmp_ne (tgt := 135) hx hb dX5_writeData_126 (by decide) (fun q13 => ?_) (fun q13 => ?_)
      · replace h := h.1 q13
        exact L135 c0 hc0 c1 hc1 x3 x4 x6 x7 (x2 &&& 63) c1 hc1 σ11 _ _ ls hH (lv_sub hl [0, 1, 3, 4, 5, 6] rfl) h
      · replace h := h.2 q13
        refine lv_sipush (v := 128) hx hb dX5_writeData_129 (by decide) ?_
        refine lv_goto (tgt := 136) hx hb dX5_writeData_132 (by decide) ?_
        exact L136 c0 hc0 c1 hc1 x3 x4 x6 x7 128 (x2 &&& 63) c1 hc1 σ11 _ _ ls hH (lv_sub hl [0, 1, 3, 4, 5, 6] rfl) h
  have L95 : ∀ (c0 : Nat) (hc0 : isPiece G c0) (c1 : Nat) (hc1 : isAir G c1) (x2 : Int32) (x3 : Int32) (x4 : Int32) (x6 : Int32) (x7 : Int32) (z0 : Int32) (z1 : Int32) (y2 : Nat) (hy2 : isAir G y2) (σ : Sg) (H : Heap) (locs : List Loc) (ls : Array Slot), Hx G (aA G s.heap.size) s σ H locs → lv_has ls 9 [(0, .ref (ga G c0)), (1, .ref (ga G c1)), (2, .int x2), (3, .int x3), (4, .int x4), (6, .int x6), (7, .int x7)] → wpX5_writeData_L95 Q c0 c1 x2 x3 x4 x6 x7 z0 z1 y2 σ → W p l e ({ frames := 2, cells := 0, slots := 0, locals := 49 }) s m args below meth c H locs 0 0 (Zv G Q below args s) (F0 m 95 ls [.int z0, .int z1, .ref (ga G y2)]) := by
    intro c0 hc0 c1 hc1 x2 x3 x4 x6 x7 z0 z1 y2 hy2 σ H locs ls hH hl h
    unfold wpX5_writeData_L95 at h
    refine lv_iadd hx hb dX5_writeData_95 ?_
    refine lv_iload hx hb dX5_writeData_96 (lv_at hl 6 rfl) ?_
    refine lv_if_le (tgt := 105) hx hb dX5_writeData_98 (by decide) (fun q10 => ?_) (fun q10 => ?_)
    · replace h := h.1 q10
      refine lv_iconst (v := 0) hx hb dX5_writeData_105 (by decide) ?_
      exact L106 c0 hc0 c1 hc1 x2 x3 x4 x6 x7 0 (z1 + z0) y2 hy2 σ _ _ ls hH (lv_sub hl [0, 1, 2, 3, 4, 5, 6] rfl) h
    · replace h := h.2 q10
      refine lv_iconst (v := 4) hx hb dX5_writeData_101 (by decide) ?_
      refine lv_goto (tgt := 106) hx hb dX5_writeData_102 (by decide) ?_
      exact L106 c0 hc0 c1 hc1 x2 x3 x4 x6 x7 4 (z1 + z0) y2 hy2 σ _ _ ls hH (lv_sub hl [0, 1, 2, 3, 4, 5, 6] rfl) h
  have L74 : ∀ (c0 : Nat) (hc0 : isPiece G c0) (c1 : Nat) (hc1 : isAir G c1) (x2 : Int32) (x3 : Int32) (x4 : Int32) (x6 : Int32) (x7 : Int32) (z0 : Int32) (z1 : Int32) (y2 : Nat) (hy2 : isAir G y2) (σ : Sg) (H : Heap) (locs : List Loc) (ls : Array Slot), Hx G (aA G s.heap.size) s σ H locs → lv_has ls 9 [(0, .ref (ga G c0)), (1, .ref (ga G c1)), (2, .int x2), (3, .int x3), (4, .int x4), (6, .int x6), (7, .int x7)] → wpX5_writeData_L74 Q c0 c1 x2 x3 x4 x6 x7 z0 z1 y2 σ → W p l e ({ frames := 2, cells := 0, slots := 0, locals := 49 }) s m args below meth c H locs 0 0 (Zv G Q below args s) (F0 m 74 ls [.int z0, .int z1, .ref (ga G y2)]) := by
    intro c0 hc0 c1 hc1 x2 x3 x4 x6 x7 z0 z1 y2 hy2 σ H locs ls hH hl h
    unfold wpX5_writeData_L74 at h
    refine lv_iadd hx hb dX5_writeData_74 ?_
    refine lv_aload_n hx hb dX5_writeData_75 rfl (lv_at hl 0 rfl) ?_
    refine lv_iload hx hb dX5_writeData_76 (lv_at hl 4 rfl) ?_
    refine lv_iconst (v := 1) hx hb dX5_writeData_78 (by decide) ?_
    refine lv_isub hx hb dX5_writeData_79 ?_
    refine lv_sipush (v := 512) hx hb dX5_writeData_80 (by decide) ?_
    refine g_callVi (As := [.int (x4 - 1), .int 512]) (rest := [.int (z1 + z0), .ref (ga G y2)]) ⟨hx, hb, hml, hown, hB⟩ hK hX aA_hA hH (c0 := c0) (tX5_has hc0 h) (cwV 2 hB gVX5_44 rfl rfl rfl (by decide +kernel) ⟨Nat.le_of_ble_eq_true rfl, Nat.le_of_ble_eq_true rfl⟩) hc0.1 rfl rfl hl.1 rfl (lv_room (Nat.le_of_ble_eq_true rfl)) ⟨Nat.zero_le _, Nat.zero_le _⟩ dX5_writeData_83 (fun r8 σ8 H locs h hH => ?_)
    refine lv_if_eq (tgt := 93) hx hb dX5_writeData_86 (by decide) (fun q9 => ?_) (fun q9 => ?_)
    · replace h := h.1 q9
      refine lv_bipush (v := 8) hx hb dX5_writeData_93 (by decide) ?_
      exact L95 c0 hc0 c1 hc1 x2 x3 x4 x6 x7 8 (z1 + z0) y2 hy2 σ8 _ _ ls hH (lv_sub hl [0, 1, 2, 3, 4, 5, 6] rfl) h
    · replace h := h.2 q9
      refine lv_iconst (v := 0) hx hb dX5_writeData_89 (by decide) ?_
      refine lv_goto (tgt := 95) hx hb dX5_writeData_90 (by decide) ?_
      exact L95 c0 hc0 c1 hc1 x2 x3 x4 x6 x7 0 (z1 + z0) y2 hy2 σ8 _ _ ls hH (lv_sub hl [0, 1, 2, 3, 4, 5, 6] rfl) h
  have L56 : ∀ (c0 : Nat) (hc0 : isPiece G c0) (c1 : Nat) (hc1 : isAir G c1) (x2 : Int32) (x3 : Int32) (x4 : Int32) (x6 : Int32) (x7 : Int32) (z0 : Int32) (z1 : Int32) (y2 : Nat) (hy2 : isAir G y2) (σ : Sg) (H : Heap) (locs : List Loc) (ls : Array Slot), Hx G (aA G s.heap.size) s σ H locs → lv_has ls 9 [(0, .ref (ga G c0)), (1, .ref (ga G c1)), (2, .int x2), (3, .int x3), (4, .int x4), (6, .int x6), (7, .int x7)] → wpX5_writeData_L56 Q c0 c1 x2 x3 x4 x6 x7 z0 z1 y2 σ → W p l e ({ frames := 2, cells := 0, slots := 0, locals := 49 }) s m args below meth c H locs 0 0 (Zv G Q below args s) (F0 m 56 ls [.int z0, .int z1, .ref (ga G y2)]) := by
    intro c0 hc0 c1 hc1 x2 x3 x4 x6 x7 z0 z1 y2 hy2 σ H locs ls hH hl h
    unfold wpX5_writeData_L56 at h
    refine lv_iadd hx hb dX5_writeData_56 ?_
    refine lv_aload_n hx hb dX5_writeData_57 rfl (lv_at hl 0 rfl) ?_
    refine lv_iload_n hx hb dX5_writeData_58 rfl (lv_at hl 3 rfl) ?_
    refine lv_sipush (v := 256) hx hb dX5_writeData_59 (by decide) ?_
    refine g_callVi (As := [.int x3, .int 256]) (rest := [.int (z1 + z0), .ref (ga G y2)]) ⟨hx, hb, hml, hown, hB⟩ hK hX aA_hA hH (c0 := c0) (tX5_has hc0 h) (cwV 2 hB gVX5_44 rfl rfl rfl (by decide +kernel) ⟨Nat.le_of_ble_eq_true rfl, Nat.le_of_ble_eq_true rfl⟩) hc0.1 rfl rfl hl.1 rfl (lv_room (Nat.le_of_ble_eq_true rfl)) ⟨Nat.zero_le _, Nat.zero_le _⟩ dX5_writeData_62 (fun r6 σ6 H locs h hH => ?_)
    refine lv_if_eq (tgt := 72) hx hb dX5_writeData_65 (by decide) (fun q7 => ?_) (fun q7 => ?_)
    · replace h := h.1 q7
      refine lv_bipush (v := 16) hx hb dX5_writeData_72 (by decide) ?_
      exact L74 c0 hc0 c1 hc1 x2 x3 x4 x6 x7 16 (z1 + z0) y2 hy2 σ6 _ _ ls hH (lv_sub hl [0, 1, 2, 3, 4, 5, 6] rfl) h
    · replace h := h.2 q7
      refine lv_iconst (v := 0) hx hb dX5_writeData_68 (by decide) ?_
      refine lv_goto (tgt := 74) hx hb dX5_writeData_69 (by decide) ?_
      exact L74 c0 hc0 c1 hc1 x2 x3 x4 x6 x7 0 (z1 + z0) y2 hy2 σ6 _ _ ls hH (lv_sub hl [0, 1, 2, 3, 4, 5, 6] rfl) h
  have L44 : ∀ (c0 : Nat) (hc0 : isPiece G c0) (c1 : Nat) (hc1 : isAir G c1) (x2 : Int32) (x3 : Int32) (x4 : Int32) (x5 : Int32) (x6 : Int32) (x7 : Int32) (z0 : Int32) (z1 : Int32) (y2 : Nat) (hy2 : isAir G y2) (σ : Sg) (H : Heap) (locs : List Loc) (ls : Array Slot), Hx G (aA G s.heap.size) s σ H locs → lv_has ls 9 [(0, .ref (ga G c0)), (1, .ref (ga G c1)), (2, .int x2), (3, .int x3), (4, .int x4), (5, .int x5), (6, .int x6), (7, .int x7)] → wpX5_writeData_L44 Q c0 c1 x2 x3 x4 x5 x6 x7 z0 z1 y2 σ → W p l e ({ frames := 2, cells := 0, slots := 0, locals := 49 }) s m args below meth c H locs 0 0 (Zv G Q below args s) (F0 m 44 ls [.int z0, .int z1, .ref (ga G y2)]) := by
    intro c0 hc0 c1 hc1 x2 x3 x4 x5 x6 x7 z0 z1 y2 hy2 σ H locs ls hH hl h
    unfold wpX5_writeData_L44 at h
    refine lv_iadd hx hb dX5_writeData_44 ?_
    refine lv_iload hx hb dX5_writeData_45 (lv_at hl 5 rfl) ?_
    refine lv_if_eq (tgt := 55) hx hb dX5_writeData_47 (by decide) (fun q5 => ?_) (fun q5 => ?_)
    · replace h := h.1 q5
      refine lv_iconst (v := 0) hx hb dX5_writeData_55 (by decide) ?_
      exact L56 c0 hc0 c1 hc1 x2 x3 x4 x6 x7 0 (z1 + z0) y2 hy2 σ _ _ ls hH (lv_sub hl [0, 1, 2, 3, 4, 6, 7] rfl) h
    · replace h := h.2 q5
      refine lv_bipush (v := 32) hx hb dX5_writeData_50 (by decide) ?_
      refine lv_goto (tgt := 56) hx hb dX5_writeData_52 (by decide) ?_
      exact L56 c0 hc0 c1 hc1 x2 x3 x4 x6 x7 32 (z1 + z0) y2 hy2 σ _ _ ls hH (lv_sub hl [0, 1, 2, 3, 4, 6, 7] rfl) h
  have L18 : ∀ (c0 : Nat) (hc0 : isPiece G c0) (c1 : Nat) (hc1 : isAir G c1) (x2 : Int32) (x3 : Int32) (x4 : Int32) (x5 : Int32) (z0 : Int32) (σ : Sg) (H : Heap) (locs : List Loc) (ls : Array Slot), Hx G (aA G s.heap.size) s σ H locs → lv_has ls 9 [(0, .ref (ga G c0)), (1, .ref (ga G c1)), (2, .int x2), (3, .int x3), (4, .int x4), (5, .int x5)] → wpX5_writeData_L18 Q c0 c1 x2 x3 x4 x5 z0 σ → W p l e ({ frames := 2, cells := 0, slots := 0, locals := 49 }) s m args below meth c H locs 0 0 (Zv G Q below args s) (F0 m 18 ls [.int z0]) := by
    intro c0 hc0 c1 hc1 x2 x3 x4 x5 z0 σ H locs ls hH hl h
    unfold wpX5_writeData_L18 at h
    refine lv_istore (lv' := [(6, .int z0), (0, .ref (ga G c0)), (1, .ref (ga G c1)), (2, .int x2), (3, .int x3), (4, .int x4), (5, .int x5)]) hx hb dX5_writeData_18 hl (by decide) rfl (fun ls hl => ?_)
    refine lv_aload_n hx hb dX5_writeData_20 rfl (lv_at hl 1 rfl) ?_
    refine lv_iload_n hx hb dX5_writeData_21 rfl (lv_at hl 4 rfl) ?_
    refine lv_iload hx hb dX5_writeData_22 (lv_at hl 5 rfl) ?_
    refine g_callVi (As := [.int x3, .int x4]) (rest := []) ⟨hx, hb, hml, hown, hB⟩ hK hX aA_hA hH (c0 := c0) (tX5_innerEnds hc0 h) (cwV 2 hB gVX5_62 rfl rfl rfl (by decide +kernel) ⟨Nat.le_of_ble_eq_true rfl, Nat.le_of_ble_eq_true rfl⟩) hc0.1 rfl rfl hl.1 rfl (lv_room (Nat.le_of_ble_eq_true rfl)) ⟨Nat.zero_le _, Nat.zero_le _⟩ dX5_writeData_24 (fun r3 σ3 H locs h hH => ?_)
    refine lv_istore (lv' := [(7, .int r3), (6, .int z0), (0, .ref (ga G c0)), (1, .ref (ga G c1)), (2, .int x2), (3, .int x3), (4, .int x4), (5, .int x5)]) hx hb dX5_writeData_27 hl (by decide) rfl (fun ls hl => ?_)
    refine lv_aload_n hx hb dX5_writeData_29 rfl (lv_at hl 3 rfl) ?_
    refine lv_sipush (v := 128) hx hb dX5_writeData_30 (by decide) ?_
    refine lv_iload hx hb dX5_writeData_33 (lv_at hl 1 rfl) ?_
    refine lv_if_eq (tgt := 43) hx hb dX5_writeData_35 (by decide) (fun q4 => ?_) (fun q4 => ?_)
    · replace h := h.1 q4
      refine lv_iconst (v := 0) hx hb dX5_writeData_43 (by decide) ?_
      exact L44 c0 hc0 c1 hc1 x2 x3 x4 x5 z0 r3 0 128 c1 hc1 σ3 _ _ ls hH (lv_sub hl [2, 3, 4, 5, 6, 7, 1, 0] rfl) h
    · replace h := h.2 q4
      refine lv_bipush (v := 64) hx hb dX5_writeData_38 (by decide) ?_
      refine lv_goto (tgt := 44) hx hb dX5_writeData_40 (by decide) ?_
      exact L44 c0 hc0 c1 hc1 x2 x3 x4 x5 z0 r3 64 128 c1 hc1 σ3 _ _ ls hH (lv_sub hl [2, 3, 4, 5, 6, 7, 1, 0] rfl) h
  have L13 : ∀ (c0 : Nat) (hc0 : isPiece G c0) (c1 : Nat) (hc1 : isAir G c1) (x2 : Int32) (x3 : Int32) (x4 : Int32) (x5 : Int32) (σ : Sg) (H : Heap) (locs : List Loc) (ls : Array Slot), Hx G (aA G s.heap.size) s σ H locs → lv_has ls 9 [(0, .ref (ga G c0)), (1, .ref (ga G c1)), (2, .int x2), (3, .int x3), (4, .int x4), (5, .int x5)] → wpX5_writeData_L13 Q c0 c1 x2 x3 x4 x5 σ → W p l e ({ frames := 2, cells := 0, slots := 0, locals := 49 }) s m args below meth c H locs 0 0 (Zv G Q below args s) (F0 m 13 ls []) := by
    intro c0 hc0 c1 hc1 x2 x3 x4 x5 σ H locs ls hH hl h
    unfold wpX5_writeData_L13 at h
    refine lv_iconst (v := 1) hx hb dX5_writeData_13 (by decide) ?_
    refine lv_goto (tgt := 18) hx hb dX5_writeData_14 (by decide) ?_
    exact L18 c0 hc0 c1 hc1 x2 x3 x4 x5 1 σ _ _ ls hH (lv_sub hl [0, 1, 2, 3, 4, 5] rfl) h
  unfold wpX5_writeData at h
  refine lv_iload_n hx hb dX5_writeData_0 rfl (lv_at hl 3 rfl) ?_
  refine lv_if_gt (tgt := 13) hx hb dX5_writeData_1 (by decide) (fun q1 => ?_) (fun q1 => ?_)
  · replace h := h.1 q1
    exact L13 c0 hc0 c1 hc1 x2 x3 x4 x5 σ _ _ ls hH (lv_sub hl [0, 1, 2, 3, 4, 5] rfl) h
  · replace h := h.2 q1
    refine lv_iload hx hb dX5_writeData_4 (lv_at hl 4 rfl) ?_
    refine lv_aload_n hx hb dX5_writeData_6 rfl (lv_at hl 0 rfl) ?_
    refine g_geti hx hb hB inB5 hown hK hH (c0 := c0) hc0.1 rfl 1 (by decide) k21 rfl rfl dX5_writeData_7 ?_
    refine lv_icmp_ge (tgt := 17) hx hb dX5_writeData_10 (by decide) (fun q2 => ?_) (fun q2 => ?_)
    · replace h := h.1 q2
      refine lv_iconst (v := 0) hx hb dX5_writeData_17 (by decide) ?_
      exact L18 c0 hc0 c1 hc1 x2 x3 x4 x5 0 σ _ _ ls hH (lv_sub hl [0, 1, 2, 3, 4, 5] rfl) h
    · replace h := h.2 q2
      exact L13 c0 hc0 c1 hc1 x2 x3 x4 x5 σ _ _ ls hH (lv_sub hl [0, 1, 2, 3, 4, 5] rfl) h

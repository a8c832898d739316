def wpX3_completes_L74 (Q : Int32 → Sg → Prop) (c0 : Nat) (z0 : Int32) (y1 : Nat) (σ : Sg) : Prop := (vz z0 ∧ ∀ σ10 : Sg, σ10 = up2 σ y1 3 z0 → ((¬ (σ10 c0 3) = 0 → Q 0 σ10) ∧ ((σ10 c0 3) = 0 → Q 1 σ10)))
def wpX3_completes_L18 (Q : Int32 → Sg → Prop) (c0 : Nat) (x1 : Int32) (σ : Sg) : Prop := (((σ c0 3) = 0 → Q 0 σ) ∧ (¬ ((σ c0 3) = 0) → (((σ c0 2) < (nI 121) → ∀ σ6 : Sg, σ6 = up2 σ c0 2 ((σ c0 2) + 1) → (vp_in (σ c0 2) 121 ∧ ∀ σ7 : Sg, σ7 = up2 σ6 (c0 + 1) ((σ c0 2).toNatClampNeg) (x1 &&& 255) → ((¬ (x1 &&& 512) = 0 → wpX3_completes_L74 Q c0 0 c0 σ7) ∧ ((x1 &&& 512) = 0 → wpX3_completes_L74 Q c0 1 c0 σ7)))) ∧ (¬ ((σ c0 2) < (nI 121)) → Q 0 σ))))
def wpX3_completes (c0 : Nat) (x1 : Int32) (σ : Sg) (Q : Int32 → Sg → Prop) : Prop := (((x1 &&& 256) = 0 → wpX3_completes_L18 Q c0 x1 σ) ∧ (¬ ((x1 &&& 256) = 0) → ∀ σ2 : Sg, σ2 = up2 σ c0 3 1 → ∀ σ3 : Sg, σ3 = up2 σ2 c0 2 0 → wpX3_completes_L18 Q c0 x1 σ3))
set_option maxHeartbeats 8000000 in
set_option maxRecDepth 100000 in
theorem tX3_completes {l : Launch} {G : GG} {c0 : Nat} {x1 : Int32} {σ : Sg} {Q : Int32 → Sg → Prop} (hc0 : isInbox G c0) (h : wpX3_completes c0 x1 σ Q) : Ki l G yX3_completes (wB yX3_completes prog_5_method_2_code 2 (Option.some FieldType.boolean)) ({ frames := 0, cells := 0, slots := 0, locals := 0 }) [.ref (ga G c0), .int x1] σ Q := by
  refine K_of (cc := cX3_completes) (maxL := 2) (ret := (some .boolean)) (by decide) rfl (Nat.le_of_ble_eq_true rfl) ?_
  intro p e s m args below meth c ls B hH hl
  obtain ⟨hx, hb, hr, hts, hown, hlk, hml, hK, hX⟩ := B
  replace hl : lv_has ls 2 [(0, .ref (ga G c0)), (1, .int x1)] := hl
  have hB : ∀ w ∈ BIG, w.before args s = true := fun w h9 => hts w (List.mem_cons_of_mem _ h9)
  clear hts
  have k9 := hB _ bw1_216
  have k28 := hB _ bw1_220
  have k32 := hB _ bw1_218
  have L74 : ∀ (c0 : Nat) (hc0 : isInbox G c0) (z0 : Int32) (y1 : Nat) (hy1 : isInbox G y1) (σ : Sg) (H : Heap) (locs : List Loc) (ls : Array Slot), Hx G (aA G s.heap.size) s σ H locs → lv_has ls 2 [(0, .ref (ga G c0))] → wpX3_completes_L74 Q c0 z0 y1 σ → W p l e ({ frames := 0, cells := 0, slots := 0, locals := 0 }) s m args below meth c H locs 0 0 (Zi G Q below args s) (F0 m 74 ls [.int z0, .ref (ga G y1)]) := by
    intro c0 hc0 z0 y1 hy1 σ H locs ls hH hl h
    unfold wpX3_completes_L74 at h
    obtain ⟨hz9, h⟩ := h
    refine g_put hx hb hB inB3 tyX3 tyX3_ok nmX3 hown hK hH (c0 := y1) hy1.1 rfl 3 (by decide) k28 rfl rfl rfl (vz_n hz9) (vz_f hz9) dX3_completes_74 (fun σ10 eσ10 H locs hH => ?_)
    replace h := h σ10 eσ10
    refine lv_aload_n hx hb dX3_completes_77 rfl (lv_at hl 0 rfl) ?_
    refine g_geti hx hb hB inB3 hown hK hH (c0 := c0) hc0.1 rfl 3 (by decide) k28 rfl rfl dX3_completes_78 ?_
    refine lv_if_ne (tgt := 88) hx hb dX3_completes_81 (by decide) (fun q11 => ?_) (fun q11 => ?_)
    · replace h := h.1 q11
      refine lv_iconst (v := 0) hx hb dX3_completes_88 (by decide) ?_
      exact g_zret hx hb hr hK hlk vz0 h hH dX3_completes_89
    · replace h := h.2 q11
      refine lv_iconst (v := 1) hx hb dX3_completes_84 (by decide) ?_
      refine lv_goto (tgt := 89) hx hb dX3_completes_85 (by decide) ?_
      exact g_zret hx hb hr hK hlk vz1 h hH dX3_completes_89
  have L18 : ∀ (c0 : Nat) (hc0 : isInbox G c0) (x1 : Int32) (σ : Sg) (H : Heap) (locs : List Loc) (ls : Array Slot), Hx G (aA G s.heap.size) s σ H locs → lv_has ls 2 [(0, .ref (ga G c0)), (1, .int x1)] → wpX3_completes_L18 Q c0 x1 σ → W p l e ({ frames := 0, cells := 0, slots := 0, locals := 0 }) s m args below meth c H locs 0 0 (Zi G Q below args s) (F0 m 18 ls []) := by
    intro c0 hc0 x1 σ H locs ls hH hl h
    unfold wpX3_completes_L18 at h
    refine lv_aload_n hx hb dX3_completes_18 rfl (lv_at hl 0 rfl) ?_
    refine g_geti hx hb hB inB3 hown hK hH (c0 := c0) hc0.1 rfl 3 (by decide) k28 rfl rfl dX3_completes_19 ?_
    refine lv_if_eq (tgt := 37) hx hb dX3_completes_22 (by decide) (fun q4 => ?_) (fun q4 => ?_)
    · replace h := h.1 q4
      refine lv_iconst (v := 0) hx hb dX3_completes_37 (by decide) ?_
      exact g_zret hx hb hr hK hlk vz0 h hH dX3_completes_38
    · replace h := h.2 q4
      refine lv_aload_n hx hb dX3_completes_25 rfl (lv_at hl 0 rfl) ?_
      refine g_geti hx hb hB inB3 hown hK hH (c0 := c0) hc0.1 rfl 2 (by decide) k32 rfl rfl dX3_completes_26 ?_
      refine lv_aload_n hx hb dX3_completes_29 rfl (lv_at hl 0 rfl) ?_
      refine g_getr hx hb hB inB3 hown hK hH (c0 := c0) hc0.1 rfl 1 (by decide) k9 rfl (c1 := c0 + 1) rfl dX3_completes_30 ?_
      refine g_aleni hx hb hK hH (c0 := c0 + 1) hc0.2.1 dX3_completes_33 ?_
      refine lv_icmp_lt (tgt := 39) hx hb dX3_completes_34 (by decide) (fun q5 => ?_) (fun q5 => ?_)
      · replace h := h.1 q5
        refine lv_aload_n hx hb dX3_completes_39 rfl (lv_at hl 0 rfl) ?_
        refine g_getr hx hb hB inB3 hown hK hH (c0 := c0) hc0.1 rfl 1 (by decide) k9 rfl (c1 := c0 + 1) rfl dX3_completes_40 ?_
        refine lv_aload_n hx hb dX3_completes_43 rfl (lv_at hl 0 rfl) ?_
        refine lv_dup hx hb dX3_completes_44 rfl ?_
        refine g_geti hx hb hB inB3 hown hK hH (c0 := c0) hc0.1 rfl 2 (by decide) k32 rfl rfl dX3_completes_45 ?_
        refine lv_dup_x1 hx hb dX3_completes_48 rfl rfl ?_
        refine lv_iconst (v := 1) hx hb dX3_completes_49 (by decide) ?_
        refine lv_iadd hx hb dX3_completes_50 ?_
        refine g_put hx hb hB inB3 tyX3 tyX3_ok nmX3 hown hK hH (c0 := c0) hc0.1 rfl 2 (by decide) k32 rfl rfl rfl rfl rfl dX3_completes_51 (fun σ6 eσ6 H locs hH => ?_)
        replace h := h σ6 eσ6
        refine lv_iload_n hx hb dX3_completes_54 rfl (lv_at hl 1 rfl) ?_
        refine lv_sipush (v := 255) hx hb dX3_completes_55 (by decide) ?_
        refine lv_iand hx hb dX3_completes_58 ?_
        obtain ⟨hi7, h⟩ := h
        refine g_iast hx hb hK hH (c0 := c0 + 1) (i := σ c0 2) hc0.2.1 hi7 dX3_completes_59 (fun σ7 eσ7 H locs hH => ?_)
        replace h := h σ7 eσ7
        refine lv_aload_n hx hb dX3_completes_60 rfl (lv_at hl 0 rfl) ?_
        refine lv_iload_n hx hb dX3_completes_61 rfl (lv_at hl 1 rfl) ?_
        refine lv_sipush (v := 512) hx hb dX3_completes_62 (by decide) ?_
        refine lv_iand hx hb dX3_completes_65 ?_
        refine lv_if_ne (tgt := 73) hx hb dX3_completes_66 (by decide) (fun q8 => ?_) (fun q8 => ?_)
        · replace h := h.1 q8
          refine lv_iconst (v := 0) hx hb dX3_completes_73 (by decide) ?_
          exact L74 c0 hc0 0 c0 hc0 σ7 _ _ ls hH (lv_sub hl [0] rfl) h
        · replace h := h.2 q8
          refine lv_iconst (v := 1) hx hb dX3_completes_69 (by decide) ?_
          refine lv_goto (tgt := 74) hx hb dX3_completes_70 (by decide) ?_
          exact L74 c0 hc0 1 c0 hc0 σ7 _ _ ls hH (lv_sub hl [0] rfl) h
      · replace h := h.2 q5
        refine lv_iconst (v := 0) hx hb dX3_completes_37 (by decide) ?_
        exact g_zret hx hb hr hK hlk vz0 h hH dX3_completes_38
  unfold wpX3_completes at h
  refine lv_iload_n hx hb dX3_completes_0 rfl (lv_at hl 1 rfl) ?_
  refine lv_sipush (v := 256) hx hb dX3_completes_1 (by decide) ?_
  refine lv_iand hx hb dX3_completes_4 ?_
  refine lv_if_eq (tgt := 18) hx hb dX3_completes_5 (by decide) (fun q1 => ?_) (fun q1 => ?_)
  · replace h := h.1 q1
    exact L18 c0 hc0 x1 σ _ _ ls hH (lv_sub hl [0, 1] rfl) h
  · replace h := h.2 q1
    refine lv_aload_n hx hb dX3_completes_8 rfl (lv_at hl 0 rfl) ?_
    refine lv_iconst (v := 1) hx hb dX3_completes_9 (by decide) ?_
    refine g_put hx hb hB inB3 tyX3 tyX3_ok nmX3 hown hK hH (c0 := c0) hc0.1 rfl 3 (by decide) k28 rfl rfl rfl (vz_n vz1) (vz_f vz1) dX3_completes_10 (fun σ2 eσ2 H locs hH => ?_)
    replace h := h σ2 eσ2
    refine lv_aload_n hx hb dX3_completes_13 rfl (lv_at hl 0 rfl) ?_
    refine lv_iconst (v := 0) hx hb dX3_completes_14 (by decide) ?_
    refine g_put hx hb hB inB3 tyX3 tyX3_ok nmX3 hown hK hH (c0 := c0) hc0.1 rfl 2 (by decide) k32 rfl rfl rfl rfl rfl dX3_completes_15 (fun σ3 eσ3 H locs hH => ?_)
    replace h := h σ3 eσ3
    exact L18 c0 hc0 x1 σ3 _ _ ls hH (lv_sub hl [0, 1] rfl) h
def wpX3_meantCount (c0 : Nat) (σ : Sg) (Q : Int32 → Sg → Prop) : Prop := ∀ x1_1 : Int32, x1_1 = (σ c0 7) - 32 → Q (x1_1 + (((σ (c0 + 1) 0) - x1_1) &&& 63)) σ
set_option maxHeartbeats 8000000 in
set_option maxRecDepth 100000 in
theorem tX3_meantCount {l : Launch} {G : GG} {c0 : Nat} {σ : Sg} {Q : Int32 → Sg → Prop} (hc0 : isInbox G c0) (h : wpX3_meantCount c0 σ Q) : Ki l G yX3_meantCount (wB yX3_meantCount prog_5_method_3_code 2 (Option.some FieldType.int)) ({ frames := 0, cells := 0, slots := 0, locals := 0 }) [.ref (ga G c0)] σ Q := by
  refine K_of (cc := cX3_meantCount) (maxL := 2) (ret := (some .int)) (by decide) rfl (Nat.le_of_ble_eq_true rfl) ?_
  intro p e s m args below meth c ls B hH hl
  obtain ⟨hx, hb, hr, hts, hown, hlk, hml, hK, hX⟩ := B
  replace hl : lv_has ls 2 [(0, .ref (ga G c0))] := hl
  have hB : ∀ w ∈ BIG, w.before args s = true := fun w h9 => hts w (List.mem_cons_of_mem _ h9)
  clear hts
  have k9 := hB _ bw1_216
  have k35 := hB _ bw1_226
  unfold wpX3_meantCount at h
  refine lv_aload_n hx hb dX3_meantCount_0 rfl (lv_at hl 0 rfl) ?_
  refine g_geti hx hb hB inB3 hown hK hH (c0 := c0) hc0.1 rfl 7 (by decide) k35 rfl rfl dX3_meantCount_1 ?_
  refine lv_bipush (v := 32) hx hb dX3_meantCount_4 (by decide) ?_
  refine lv_isub hx hb dX3_meantCount_6 ?_
  refine lv_topi (fun x1_1 ex1_1 => ?_)
  replace h := h x1_1 ex1_1
  refine lv_istore_n (lv' := [(1, .int x1_1), (0, .ref (ga G c0))]) hx hb dX3_meantCount_7 rfl hl (by decide) rfl (fun ls hl => ?_)
  refine lv_iload_n hx hb dX3_meantCount_8 rfl (lv_at hl 0 rfl) ?_
  refine lv_aload_n hx hb dX3_meantCount_9 rfl (lv_at hl 1 rfl) ?_
  refine g_getr hx hb hB inB3 hown hK hH (c0 := c0) hc0.1 rfl 1 (by decide) k9 rfl (c1 := c0 + 1) rfl dX3_meantCount_10 ?_
  refine lv_iconst (v := 0) hx hb dX3_meantCount_13 (by decide) ?_
  refine g_iald (i := 0) hx hb hK hH (c0 := c0 + 1) hc0.2.1 (vp_in_nI (n := 0) (by decide) (by decide)) dX3_meantCount_14 ?_
  refine lv_iload_n hx hb dX3_meantCount_15 rfl (lv_at hl 0 rfl) ?_
  refine lv_isub hx hb dX3_meantCount_16 ?_
  refine lv_bipush (v := 63) hx hb dX3_meantCount_17 (by decide) ?_
  refine lv_iand hx hb dX3_meantCount_19 ?_
  refine lv_iadd hx hb dX3_meantCount_20 ?_
  exact g_iret hx hb hr hK hlk h hH dX3_meantCount_21
def wpX3_isDouble_L20 (Q : Int32 → Sg → Prop) (σ : Sg) : Prop := Q 1 σ
def wpX3_isDouble (c0 : Nat) (x1 : Int32) (σ : Sg) (Q : Int32 → Sg → Prop) : Prop := ((x1 < (σ c0 7) → wpX3_isDouble_L20 Q σ) ∧ (¬ (x1 < (σ c0 7)) → (vp_in (x1 &&& 31) 32 ∧ (((σ (c0 + 3) (x1 &&& 31).toNatClampNeg) ≤ 0 → Q 0 σ) ∧ (¬ ((σ (c0 + 3) (x1 &&& 31).toNatClampNeg) ≤ 0) → wpX3_isDouble_L20 Q σ)))))
set_option maxHeartbeats 8000000 in
set_option maxRecDepth 100000 in
theorem tX3_isDouble {l : Launch} {G : GG} {c0 : Nat} {x1 : Int32} {σ : Sg} {Q : Int32 → Sg → Prop} (hc0 : isInbox G c0) (h : wpX3_isDouble c0 x1 σ Q) : Ki l G yX3_isDouble (wB yX3_isDouble prog_5_method_4_code 2 (Option.some FieldType.boolean)) ({ frames := 0, cells := 0, slots := 0, locals := 0 }) [.ref (ga G c0), .int x1] σ Q := by
  refine K_of (cc := cX3_isDouble) (maxL := 2) (ret := (some .boolean)) (by decide) rfl (Nat.le_of_ble_eq_true rfl) ?_
  intro p e s m args below meth c ls B hH hl
  obtain ⟨hx, hb, hr, hts, hown, hlk, hml, hK, hX⟩ := B
  replace hl : lv_has ls 2 [(0, .ref (ga G c0)), (1, .int x1)] := hl
  have hB : ∀ w ∈ BIG, w.before args s = true := fun w h9 => hts w (List.mem_cons_of_mem _ h9)
  clear hts
  have k18 := hB _ bw1_223
  have k35 := hB _ bw1_226
  have L20 : ∀ (σ : Sg) (H : Heap) (locs : List Loc) (ls : Array Slot), Hx G (aA G s.heap.size) s σ H locs → lv_has ls 2 [] → wpX3_isDouble_L20 Q σ → W p l e ({ frames := 0, cells := 0, slots := 0, locals := 0 }) s m args below meth c H locs 0 0 (Zi G Q below args s) (F0 m 20 ls []) := by
    intro σ H locs ls hH hl h
    unfold wpX3_isDouble_L20 at h
    refine lv_iconst (v := 1) hx hb dX3_isDouble_20 (by decide) ?_
    refine lv_goto (tgt := 25) hx hb dX3_isDouble_21 (by decide) ?_
    exact g_zret hx hb hr hK hlk vz1 h hH dX3_isDouble_25
  unfold wpX3_isDouble at h
  refine lv_iload_n hx hb dX3_isDouble_0 rfl (lv_at hl 1 rfl) ?_
  refine lv_aload_n hx hb dX3_isDouble_1 rfl (lv_at hl 0 rfl) ?_
  refine g_geti hx hb hB inB3 hown hK hH (c0 := c0) hc0.1 rfl 7 (by decide) k35 rfl rfl dX3_isDouble_2 ?_
  refine lv_icmp_lt (tgt := 20) hx hb dX3_isDouble_5 (by decide) (fun q1 => ?_) (fun q1 => ?_)
  · replace h := h.1 q1
    exact L20 σ _ _ ls hH (lv_sub hl [] rfl) h
  · replace h := h.2 q1
    refine lv_aload_n hx hb dX3_isDouble_8 rfl (lv_at hl 0 rfl) ?_
    refine g_getr hx hb hB inB3 hown hK hH (c0 := c0) hc0.1 rfl 5 (by decide) k18 rfl (c1 := c0 + 3) rfl dX3_isDouble_9 ?_
    refine lv_iload_n hx hb dX3_isDouble_12 rfl (lv_at hl 1 rfl) ?_
    refine lv_bipush (v := 31) hx hb dX3_isDouble_13 (by decide) ?_
    refine lv_iand hx hb dX3_isDouble_15 ?_
    obtain ⟨hi2, h⟩ := h
    refine g_iald hx hb hK hH (c0 := c0 + 3) hc0.2.2.2.1 hi2 dX3_isDouble_16 ?_
    refine lv_if_le (tgt := 24) hx hb dX3_isDouble_17 (by decide) (fun q3 => ?_) (fun q3 => ?_)
    · replace h := h.1 q3
      refine lv_iconst (v := 0) hx hb dX3_isDouble_24 (by decide) ?_
      exact g_zret hx hb hr hK hlk vz0 h hH dX3_isDouble_25
    · replace h := h.2 q3
      exact L20 σ _ _ ls hH (lv_sub hl [] rfl) h
def wpX3_store (c0 : Nat) (x1 : Int32) (σ : Sg) (Q : Sg → Prop) : Prop := ∀ x2_1 : Int32, x2_1 = (σ c0 2) - 1 → ((x2_1 < 1 → Q σ) ∧ (¬ (x2_1 < 1) → ((x2_1 ≤ 120 → ∀ x3_4 : Int32, x3_4 = x1 &&& 31 → (¬ (1 : Int32) < 0 ∧ ¬ (x3_4 * 120) < 0 ∧ ¬ x2_1 < 0 ∧ (1 : Int32).toNatClampNeg + x2_1.toNatClampNeg ≤ 121 ∧ (x3_4 * 120).toNatClampNeg + x2_1.toNatClampNeg ≤ 3840 ∧ ∀ σ5 : Sg, σ5 = va_up σ (c0 + 2) (va_cpy (σ (c0 + 1)) (σ (c0 + 2)) (1 : Int32).toNatClampNeg (x3_4 * 120).toNatClampNeg x2_1.toNatClampNeg) → (vp_in x3_4 32 ∧ ∀ σ6 : Sg, σ6 = up2 σ5 (c0 + 3) x3_4.toNatClampNeg x2_1 → ∀ σ7 : Sg, σ7 = up2 σ6 c0 6 ((σ6 c0 6) + 1) → Q σ7))) ∧ (¬ (x2_1 ≤ 120) → Q σ))))
set_option maxHeartbeats 8000000 in
set_option maxRecDepth 100000 in
theorem tX3_store {l : Launch} {G : GG} {c0 : Nat} {x1 : Int32} {σ : Sg} {Q : Sg → Prop} (hc0 : isInbox G c0) (h : wpX3_store c0 x1 σ Q) : Kv l G yX3_store (wB yX3_store prog_5_method_5_code 4 none) ({ frames := 1, cells := 0, slots := 0, locals := 18 }) [.ref (ga G c0), .int x1] σ Q := by
  refine K_of (cc := cX3_store) (maxL := 4) (ret := none) (by decide) rfl (Nat.le_of_ble_eq_true rfl) ?_
  intro p e s m args below meth c ls B hH hl
  obtain ⟨hx, hb, hr, hts, hown, hlk, hml, hK, hX⟩ := B
  replace hl : lv_has ls 4 [(0, .ref (ga G c0)), (1, .int x1)] := hl
  have hB : ∀ w ∈ BIG, w.before args s = true := fun w h9 => hts w (List.mem_cons_of_mem _ h9)
  clear hts
  have k9 := hB _ bw1_216
  have k15 := hB _ bw1_222
  have k18 := hB _ bw1_223
  have k32 := hB _ bw1_218
  have k44 := hB _ bw1_224
  have k38 := hB _ bw3_220
  have kc1 := hB _ bw2_195
  have kc2 := hB _ bw2_194
  have kc3 := hB _ bw1_11
  unfold wpX3_store at h
  refine lv_aload_n hx hb dX3_store_0 rfl (lv_at hl 0 rfl) ?_
  refine g_geti hx hb hB inB3 hown hK hH (c0 := c0) hc0.1 rfl 2 (by decide) k32 rfl rfl dX3_store_1 ?_
  refine lv_iconst (v := 1) hx hb dX3_store_4 (by decide) ?_
  refine lv_isub hx hb dX3_store_5 ?_
  refine lv_topi (fun x2_1 ex2_1 => ?_)
  replace h := h x2_1 ex2_1
  refine lv_istore_n (lv' := [(2, .int x2_1), (0, .ref (ga G c0)), (1, .int x1)]) hx hb dX3_store_6 rfl hl (by decide) rfl (fun ls hl => ?_)
  refine lv_iload_n hx hb dX3_store_7 rfl (lv_at hl 0 rfl) ?_
  refine lv_iconst (v := 1) hx hb dX3_store_8 (by decide) ?_
  refine lv_icmp_lt (tgt := 18) hx hb dX3_store_9 (by decide) (fun q2 => ?_) (fun q2 => ?_)
  · replace h := h.1 q2
    exact g_vret hx hb hr hK hlk h hH dX3_store_18
  · replace h := h.2 q2
    refine lv_iload_n hx hb dX3_store_12 rfl (lv_at hl 0 rfl) ?_
    refine lv_bipush (v := 120) hx hb dX3_store_13 (by decide) ?_
    refine lv_icmp_le (tgt := 19) hx hb dX3_store_15 (by decide) (fun q3 => ?_) (fun q3 => ?_)
    · replace h := h.1 q3
      refine lv_iload_n hx hb dX3_store_19 rfl (lv_at hl 2 rfl) ?_
      refine lv_bipush (v := 31) hx hb dX3_store_20 (by decide) ?_
      refine lv_iand hx hb dX3_store_22 ?_
      refine lv_topi (fun x3_4 ex3_4 => ?_)
      replace h := h x3_4 ex3_4
      refine lv_istore_n (lv' := [(3, .int x3_4), (2, .int x2_1), (0, .ref (ga G c0)), (1, .int x1)]) hx hb dX3_store_23 rfl hl (by decide) rfl (fun ls hl => ?_)
      refine lv_aload_n hx hb dX3_store_24 rfl (lv_at hl 2 rfl) ?_
      refine g_getr hx hb hB inB3 hown hK hH (c0 := c0) hc0.1 rfl 1 (by decide) k9 rfl (c1 := c0 + 1) rfl dX3_store_25 ?_
      refine lv_iconst (v := 1) hx hb dX3_store_28 (by decide) ?_
      refine lv_aload_n hx hb dX3_store_29 rfl (lv_at hl 2 rfl) ?_
      refine g_getr hx hb hB inB3 hown hK hH (c0 := c0) hc0.1 rfl 4 (by decide) k15 rfl (c1 := c0 + 2) rfl dX3_store_30 ?_
      refine lv_iload_n hx hb dX3_store_33 rfl (lv_at hl 0 rfl) ?_
      refine lv_bipush (v := 120) hx hb dX3_store_34 (by decide) ?_
      refine lv_imul hx hb dX3_store_36 ?_
      refine lv_iload_n hx hb dX3_store_37 rfl (lv_at hl 1 rfl) ?_
      obtain ⟨j51, j52, j53, j54, j55, h⟩ := h
      refine g_copy hx hb (hml.trans hl.1.symm) hown k38 kc1 kc2 kc3 hK hH (c0 := c0 + 1) (c1 := c0 + 2) hc0.2.1 hc0.2.2.1 j51 j52 j53 j54 j55 (Nat.le_of_ble_eq_true rfl) (Nat.le_of_ble_eq_true rfl) dX3_store_38 (fun σ5 eσ5 H locs hH => ?_)
      replace h := h σ5 eσ5
      refine lv_aload_n hx hb dX3_store_41 rfl (lv_at hl 2 rfl) ?_
      refine g_getr hx hb hB inB3 hown hK hH (c0 := c0) hc0.1 rfl 5 (by decide) k18 rfl (c1 := c0 + 3) rfl dX3_store_42 ?_
      refine lv_iload_n hx hb dX3_store_45 rfl (lv_at hl 0 rfl) ?_
      refine lv_iload_n hx hb dX3_store_46 rfl (lv_at hl 1 rfl) ?_
      obtain ⟨hi6, h⟩ := h
      refine g_iast hx hb hK hH (c0 := c0 + 3) (i := x3_4) hc0.2.2.2.1 hi6 dX3_store_47 (fun σ6 eσ6 H locs hH => ?_)
      replace h := h σ6 eσ6
      refine lv_aload_n hx hb dX3_store_48 rfl (lv_at hl 2 rfl) ?_
      refine lv_dup hx hb dX3_store_49 rfl ?_
      refine g_geti hx hb hB inB3 hown hK hH (c0 := c0) hc0.1 rfl 6 (by decide) k44 rfl rfl dX3_store_50 ?_
      refine lv_iconst (v := 1) hx hb dX3_store_53 (by decide) ?_
      refine lv_iadd hx hb dX3_store_54 ?_
      refine g_put hx hb hB inB3 tyX3 tyX3_ok nmX3 hown hK hH (c0 := c0) hc0.1 rfl 6 (by decide) k44 rfl rfl rfl rfl rfl dX3_store_55 (fun σ7 eσ7 H locs hH => ?_)
      replace h := h σ7 eσ7
      exact g_vret hx hb hr hK hlk h hH dX3_store_58
    · replace h := h.2 q3
      exact g_vret hx hb hr hK hlk h hH dX3_store_18
def wpX3_deliverStored_L124 (Q : Sg → Prop) (K2 : Nat → Int32 → Sg → Prop) : Nat → Nat → Int32 → Int32 → Sg → Prop
  | 0, _, _, _, _ => False
  | n + 1, c0, x1, x3, σ => (((σ c0 12) ≤ x3 → ∀ x1_15 : Int32, x1_15 = x1 + 1 → K2 c0 x1_15 σ) ∧ (¬ ((σ c0 12) ≤ x3) → (vp_in x3 120 ∧ ∀ σ17 : Sg, σ17 = up2 σ c0 10 ((31 * (σ c0 10)) + (σ (c0 + 4) x3.toNatClampNeg)) → ∀ x3_18 : Int32, x3_18 = x3 + 1 → (wpX3_deliverStored_L124 Q K2 n) c0 x1 x3_18 σ17)))
def wpX3_deliverStored_L2 (Q : Sg → Prop) : Nat → Nat → Int32 → Sg → Prop
  | 0, _, _, _ => False
  | n + 1, c0, x1, σ => ((32 ≤ x1 → Q σ) ∧ (¬ (32 ≤ x1) → (vp_in ((σ c0 7) &&& 31) 32 ∧ (((σ (c0 + 3) ((σ c0 7) &&& 31).toNatClampNeg) ≤ 0 → Q σ) ∧ (¬ ((σ (c0 + 3) ((σ c0 7) &&& 31).toNatClampNeg) ≤ 0) → ∀ x2_4 : Int32, x2_4 = (σ c0 7) &&& 31 → (vp_in x2_4 32 ∧ ∀ w6 : Int32, w6 = (if 120 < (σ (c0 + 3) x2_4.toNatClampNeg) then 120 else (σ (c0 + 3) x2_4.toNatClampNeg)) → ∀ σ7 : Sg, σ7 = up2 σ c0 12 w6 → (¬ (x2_4 * 120) < 0 ∧ ¬ (0 : Int32) < 0 ∧ ¬ (σ7 c0 12) < 0 ∧ (x2_4 * 120).toNatClampNeg + (σ7 c0 12).toNatClampNeg ≤ 3840 ∧ (0 : Int32).toNatClampNeg + (σ7 c0 12).toNatClampNeg ≤ 120 ∧ ∀ σ8 : Sg, σ8 = va_up σ7 (c0 + 4) (va_cpy (σ7 (c0 + 2)) (σ7 (c0 + 4)) (x2_4 * 120).toNatClampNeg (0 : Int32).toNatClampNeg (σ7 c0 12).toNatClampNeg) → (vp_in x2_4 32 ∧ ∀ σ9 : Sg, σ9 = up2 σ8 (c0 + 3) x2_4.toNatClampNeg 0 → ∀ σ10 : Sg, σ10 = up2 σ9 c0 6 ((σ9 c0 6) - 1) → ∀ σ11 : Sg, σ11 = up2 σ10 c0 7 ((σ10 c0 7) + 1) → ∀ σ12 : Sg, σ12 = up2 σ11 c0 8 ((σ11 c0 8) + (σ11 c0 12)) → ∀ σ13 : Sg, σ13 = up2 σ12 c0 10 ((31 * (σ12 c0 10)) + (σ12 c0 12)) → ∃ nn, wpX3_deliverStored_L124 Q (wpX3_deliverStored_L2 Q n) nn c0 x1 0 σ13))))))))
def wpX3_deliverStored (c0 : Nat) (σ : Sg) (Q : Sg → Prop) : Prop := ∃ nn, wpX3_deliverStored_L2 Q nn c0 0 σ
set_option maxHeartbeats 8000000 in
set_option maxRecDepth 100000 in
theorem tX3_deliverStored {l : Launch} {G : GG} {c0 : Nat} {σ : Sg} {Q : Sg → Prop} (hc0 : isInbox G c0) (h : wpX3_deliverStored c0 σ Q) : Kv l G yX3_deliverStored (wB yX3_deliverStored prog_5_method_6_code 4 none) ({ frames := 1, cells := 0, slots := 0, locals := 18 }) [.ref (ga G c0)] σ Q := by
  refine K_of (cc := cX3_deliverStored) (maxL := 4) (ret := none) (by decide) rfl (Nat.le_of_ble_eq_true rfl) ?_
  intro p e s m args below meth c ls B hH hl
  obtain ⟨hx, hb, hr, hts, hown, hlk, hml, hK, hX⟩ := B
  replace hl : lv_has ls 4 [(0, .ref (ga G c0))] := hl
  have hB : ∀ w ∈ BIG, w.before args s = true := fun w h9 => hts w (List.mem_cons_of_mem _ h9)
  clear hts
  have k15 := hB _ bw1_222
  have k18 := hB _ bw1_223
  have k21 := hB _ bw1_233
  have k35 := hB _ bw1_226
  have k44 := hB _ bw1_224
  have k53 := hB _ bw1_235
  have k56 := hB _ bw1_228
  have k59 := hB _ bw1_231
  have k38 := hB _ bw3_220
  have kc1 := hB _ bw2_195
  have kc2 := hB _ bw2_194
  have kc3 := hB _ bw1_11
  have k47 := hB _ bw3_225
  have kmmin1 := hB _ bw3_16
  have km2 := hB _ bw1_12
  have kmmin3 : (Cond.code Lib.Math.min.name Lib.Math.min.code 2 (some .int)).before args s = true := hB _ bw3_17
  have L2 : ∀ (n2 : Nat) (c0 : Nat) (hc0 : isInbox G c0) (x1 : Int32) (σ : Sg) (H : Heap) (locs : List Loc) (ls : Array Slot), Hx G (aA G s.heap.size) s σ H locs → lv_has ls 4 [(0, .ref (ga G c0)), (1, .int x1)] → wpX3_deliverStored_L2 Q n2 c0 x1 σ → W p l e ({ frames := 1, cells := 0, slots := 0, locals := 18 }) s m args below meth c H locs 0 0 (Zv G Q below args s) (F0 m 2 ls []) := by
    intro n2
    induction n2 with
    | zero =>
      intro c0 hc0 x1 σ H locs ls hH hl h
      exact False.elim h
    | succ n2 ih2 =>
      have L124 : ∀ (n124 : Nat) (c0 : Nat) (hc0 : isInbox G c0) (x1 : Int32) (x3 : Int32) (σ : Sg) (H : Heap) (locs : List Loc) (ls : Array Slot), Hx G (aA G s.heap.size) s σ H locs → lv_has ls 4 [(0, .ref (ga G c0)), (1, .int x1), (3, .int x3)] → wpX3_deliverStored_L124 Q (wpX3_deliverStored_L2 Q n2) n124 c0 x1 x3 σ → W p l e ({ frames := 1, cells := 0, slots := 0, locals := 18 }) s m args below meth c H locs 0 0 (Zv G Q below args s) (F0 m 124 ls []) := by
        intro n124
        induction n124 with
        | zero =>
          intro c0 hc0 x1 x3 σ H locs ls hH hl h
          exact False.elim h
        | succ n124 ih124 =>
          intro c0 hc0 x1 x3 σ H locs ls hH hl h
          unfold wpX3_deliverStored_L124 at h
          refine lv_iload_n hx hb dX3_deliverStored_124 rfl (lv_at hl 2 rfl) ?_
          refine lv_aload_n hx hb dX3_deliverStored_125 rfl (lv_at hl 0 rfl) ?_
          refine g_geti hx hb hB inB3 hown hK hH (c0 := c0) hc0.1 rfl 12 (by decide) k53 rfl rfl dX3_deliverStored_126 ?_
          refine lv_icmp_ge (tgt := 156) hx hb dX3_deliverStored_129 (by decide) (fun q14 => ?_) (fun q14 => ?_)
          · replace h := h.1 q14
            obtain ⟨x1_15, ex1_15⟩ : ∃ y : Int32, y = x1 + 1 := ⟨_, rfl⟩
            replace h := h x1_15 ex1_15
            refine lv_iinc (v := x1_15) (lv' := [(1, .int x1_15), (0, .ref (ga G c0)), (3, .int x3)]) hx hb dX3_deliverStored_156 hl (k := 1) rfl (by rw [ex1_15]; rfl) (by decide) rfl (fun ls hl => ?_)
            refine lv_goto (tgt := 2) hx hb dX3_deliverStored_159 (by decide) ?_
            exact ih2 c0 hc0 x1_15 σ _ _ ls hH (lv_sub hl [1, 0] rfl) h
          · replace h := h.2 q14
            refine lv_aload_n hx hb dX3_deliverStored_132 rfl (lv_at hl 0 rfl) ?_
            refine lv_bipush (v := 31) hx hb dX3_deliverStored_133 (by decide) ?_
            refine lv_aload_n hx hb dX3_deliverStored_135 rfl (lv_at hl 0 rfl) ?_
            refine g_geti hx hb hB inB3 hown hK hH (c0 := c0) hc0.1 rfl 10 (by decide) k59 rfl rfl dX3_deliverStored_136 ?_
            refine lv_imul hx hb dX3_deliverStored_139 ?_
            refine lv_aload_n hx hb dX3_deliverStored_140 rfl (lv_at hl 0 rfl) ?_
            refine g_getr hx hb hB inB3 hown hK hH (c0 := c0) hc0.1 rfl 11 (by decide) k21 rfl (c1 := c0 + 4) rfl dX3_deliverStored_141 ?_
            refine lv_iload_n hx hb dX3_deliverStored_144 rfl (lv_at hl 2 rfl) ?_
            obtain ⟨hi16, h⟩ := h
            refine g_iald hx hb hK hH (c0 := c0 + 4) hc0.2.2.2.2 hi16 dX3_deliverStored_145 ?_
            refine lv_iadd hx hb dX3_deliverStored_146 ?_
            refine g_put hx hb hB inB3 tyX3 tyX3_ok nmX3 hown hK hH (c0 := c0) hc0.1 rfl 10 (by decide) k59 rfl rfl rfl rfl rfl dX3_deliverStored_147 (fun σ17 eσ17 H locs hH => ?_)
            replace h := h σ17 eσ17
            obtain ⟨x3_18, ex3_18⟩ : ∃ y : Int32, y = x3 + 1 := ⟨_, rfl⟩
            replace h := h x3_18 ex3_18
            refine lv_iinc (v := x3_18) (lv' := [(3, .int x3_18), (0, .ref (ga G c0)), (1, .int x1)]) hx hb dX3_deliverStored_150 hl (k := 2) rfl (by rw [ex3_18]; rfl) (by decide) rfl (fun ls hl => ?_)
            refine lv_goto (tgt := 124) hx hb dX3_deliverStored_153 (by decide) ?_
            exact ih124 c0 hc0 x1 x3_18 σ17 _ _ ls hH (lv_sub hl [1, 2, 0] rfl) h
      intro c0 hc0 x1 σ H locs ls hH hl h
      unfold wpX3_deliverStored_L2 at h
      refine lv_iload_n hx hb dX3_deliverStored_2 rfl (lv_at hl 1 rfl) ?_
      refine lv_bipush (v := 32) hx hb dX3_deliverStored_3 (by decide) ?_
      refine lv_icmp_ge (tgt := 162) hx hb dX3_deliverStored_5 (by decide) (fun q1 => ?_) (fun q1 => ?_)
      · replace h := h.1 q1
        exact g_vret hx hb hr hK hlk h hH dX3_deliverStored_162
      · replace h := h.2 q1
        refine lv_aload_n hx hb dX3_deliverStored_8 rfl (lv_at hl 0 rfl) ?_
        refine g_getr hx hb hB inB3 hown hK hH (c0 := c0) hc0.1 rfl 5 (by decide) k18 rfl (c1 := c0 + 3) rfl dX3_deliverStored_9 ?_
        refine lv_aload_n hx hb dX3_deliverStored_12 rfl (lv_at hl 0 rfl) ?_
        refine g_geti hx hb hB inB3 hown hK hH (c0 := c0) hc0.1 rfl 7 (by decide) k35 rfl rfl dX3_deliverStored_13 ?_
        refine lv_bipush (v := 31) hx hb dX3_deliverStored_16 (by decide) ?_
        refine lv_iand hx hb dX3_deliverStored_18 ?_
        obtain ⟨hi2, h⟩ := h
        refine g_iald hx hb hK hH (c0 := c0 + 3) hc0.2.2.2.1 hi2 dX3_deliverStored_19 ?_
        refine lv_if_le (tgt := 162) hx hb dX3_deliverStored_20 (by decide) (fun q3 => ?_) (fun q3 => ?_)
        · replace h := h.1 q3
          exact g_vret hx hb hr hK hlk h hH dX3_deliverStored_162
        · replace h := h.2 q3
          refine lv_aload_n hx hb dX3_deliverStored_23 rfl (lv_at hl 0 rfl) ?_
          refine g_geti hx hb hB inB3 hown hK hH (c0 := c0) hc0.1 rfl 7 (by decide) k35 rfl rfl dX3_deliverStored_24 ?_
          refine lv_bipush (v := 31) hx hb dX3_deliverStored_27 (by decide) ?_
          refine lv_iand hx hb dX3_deliverStored_29 ?_
          refine lv_topi (fun x2_4 ex2_4 => ?_)
          replace h := h x2_4 ex2_4
          refine lv_istore_n (lv' := [(2, .int x2_4), (0, .ref (ga G c0)), (1, .int x1)]) hx hb dX3_deliverStored_30 rfl hl (by decide) rfl (fun ls hl => ?_)
          refine lv_aload_n hx hb dX3_deliverStored_31 rfl (lv_at hl 1 rfl) ?_
          refine lv_aload_n hx hb dX3_deliverStored_32 rfl (lv_at hl 1 rfl) ?_
          refine g_getr hx hb hB inB3 hown hK hH (c0 := c0) hc0.1 rfl 5 (by decide) k18 rfl (c1 := c0 + 3) rfl dX3_deliverStored_33 ?_
          refine lv_iload_n hx hb dX3_deliverStored_36 rfl (lv_at hl 0 rfl) ?_
          obtain ⟨hi5, h⟩ := h
          refine g_iald hx hb hK hH (c0 := c0 + 3) hc0.2.2.2.1 hi5 dX3_deliverStored_37 ?_
          refine lv_bipush (v := 120) hx hb dX3_deliverStored_38 (by decide) ?_
          refine va_mmin hx hb (hml.trans hl.1.symm) hown k47 kmmin1 km2 kmmin3 (Nat.le_of_ble_eq_true rfl) (Nat.le_of_ble_eq_true rfl) (Nat.zero_le _) (Nat.zero_le _) dX3_deliverStored_40 ?_
          refine lv_topi (fun w6 ew6 => ?_)
          replace h := h w6 ew6
          refine g_put hx hb hB inB3 tyX3 tyX3_ok nmX3 hown hK hH (c0 := c0) hc0.1 rfl 12 (by decide) k53 rfl rfl rfl rfl rfl dX3_deliverStored_43 (fun σ7 eσ7 H locs hH => ?_)
          replace h := h σ7 eσ7
          refine lv_aload_n hx hb dX3_deliverStored_46 rfl (lv_at hl 1 rfl) ?_
          refine g_getr hx hb hB inB3 hown hK hH (c0 := c0) hc0.1 rfl 4 (by decide) k15 rfl (c1 := c0 + 2) rfl dX3_deliverStored_47 ?_
          refine lv_iload_n hx hb dX3_deliverStored_50 rfl (lv_at hl 0 rfl) ?_
          refine lv_bipush (v := 120) hx hb dX3_deliverStored_51 (by decide) ?_
          refine lv_imul hx hb dX3_deliverStored_53 ?_
          refine lv_aload_n hx hb dX3_deliverStored_54 rfl (lv_at hl 1 rfl) ?_
          refine g_getr hx hb hB inB3 hown hK hH (c0 := c0) hc0.1 rfl 11 (by decide) k21 rfl (c1 := c0 + 4) rfl dX3_deliverStored_55 ?_
          refine lv_iconst (v := 0) hx hb dX3_deliverStored_58 (by decide) ?_
          refine lv_aload_n hx hb dX3_deliverStored_59 rfl (lv_at hl 1 rfl) ?_
          refine g_geti hx hb hB inB3 hown hK hH (c0 := c0) hc0.1 rfl 12 (by decide) k53 rfl rfl dX3_deliverStored_60 ?_
          obtain ⟨j81, j82, j83, j84, j85, h⟩ := h
          refine g_copy hx hb (hml.trans hl.1.symm) hown k38 kc1 kc2 kc3 hK hH (c0 := c0 + 2) (c1 := c0 + 4) hc0.2.2.1 hc0.2.2.2.2 j81 j82 j83 j84 j85 (Nat.le_of_ble_eq_true rfl) (Nat.le_of_ble_eq_true rfl) dX3_deliverStored_63 (fun σ8 eσ8 H locs hH => ?_)
          replace h := h σ8 eσ8
          refine lv_aload_n hx hb dX3_deliverStored_66 rfl (lv_at hl 1 rfl) ?_
          refine g_getr hx hb hB inB3 hown hK hH (c0 := c0) hc0.1 rfl 5 (by decide) k18 rfl (c1 := c0 + 3) rfl dX3_deliverStored_67 ?_
          refine lv_iload_n hx hb dX3_deliverStored_70 rfl (lv_at hl 0 rfl) ?_
          refine lv_iconst (v := 0) hx hb dX3_deliverStored_71 (by decide) ?_
          obtain ⟨hi9, h⟩ := h
          refine g_iast hx hb hK hH (c0 := c0 + 3) (i := x2_4) hc0.2.2.2.1 hi9 dX3_deliverStored_72 (fun σ9 eσ9 H locs hH => ?_)
          replace h := h σ9 eσ9
          refine lv_aload_n hx hb dX3_deliverStored_73 rfl (lv_at hl 1 rfl) ?_
          refine lv_dup hx hb dX3_deliverStored_74 rfl ?_
          refine g_geti hx hb hB inB3 hown hK hH (c0 := c0) hc0.1 rfl 6 (by decide) k44 rfl rfl dX3_deliverStored_75 ?_
          refine lv_iconst (v := 1) hx hb dX3_deliverStored_78 (by decide) ?_
          refine lv_isub hx hb dX3_deliverStored_79 ?_
          refine g_put hx hb hB inB3 tyX3 tyX3_ok nmX3 hown hK hH (c0 := c0) hc0.1 rfl 6 (by decide) k44 rfl rfl rfl rfl rfl dX3_deliverStored_80 (fun σ10 eσ10 H locs hH => ?_)
          replace h := h σ10 eσ10
          refine lv_aload_n hx hb dX3_deliverStored_83 rfl (lv_at hl 1 rfl) ?_
          refine lv_dup hx hb dX3_deliverStored_84 rfl ?_
          refine g_geti hx hb hB inB3 hown hK hH (c0 := c0) hc0.1 rfl 7 (by decide) k35 rfl rfl dX3_deliverStored_85 ?_
          refine lv_iconst (v := 1) hx hb dX3_deliverStored_88 (by decide) ?_
          refine lv_iadd hx hb dX3_deliverStored_89 ?_
          refine g_put hx hb hB inB3 tyX3 tyX3_ok nmX3 hown hK hH (c0 := c0) hc0.1 rfl 7 (by decide) k35 rfl rfl rfl rfl rfl dX3_deliverStored_90 (fun σ11 eσ11 H locs hH => ?_)
          replace h := h σ11 eσ11
          refine lv_aload_n hx hb dX3_deliverStored_93 rfl (lv_at hl 1 rfl) ?_
          refine lv_dup hx hb dX3_deliverStored_94 rfl ?_
          refine g_geti hx hb hB inB3 hown hK hH (c0 := c0) hc0.1 rfl 8 (by decide) k56 rfl rfl dX3_deliverStored_95 ?_
          refine lv_aload_n hx hb dX3_deliverStored_98 rfl (lv_at hl 1 rfl) ?_
          refine g_geti hx hb hB inB3 hown hK hH (c0 := c0) hc0.1 rfl 12 (by decide) k53 rfl rfl dX3_deliverStored_99 ?_
          refine lv_iadd hx hb dX3_deliverStored_102 ?_
          refine g_put hx hb hB inB3 tyX3 tyX3_ok nmX3 hown hK hH (c0 := c0) hc0.1 rfl 8 (by decide) k56 rfl rfl rfl rfl rfl dX3_deliverStored_103 (fun σ12 eσ12 H locs hH => ?_)
          replace h := h σ12 eσ12
          refine lv_aload_n hx hb dX3_deliverStored_106 rfl (lv_at hl 1 rfl) ?_
          refine lv_bipush (v := 31) hx hb dX3_deliverStored_107 (by decide) ?_
          refine lv_aload_n hx hb dX3_deliverStored_109 rfl (lv_at hl 1 rfl) ?_
          refine g_geti hx hb hB inB3 hown hK hH (c0 := c0) hc0.1 rfl 10 (by decide) k59 rfl rfl dX3_deliverStored_110 ?_
          refine lv_imul hx hb dX3_deliverStored_113 ?_
          refine lv_aload_n hx hb dX3_deliverStored_114 rfl (lv_at hl 1 rfl) ?_
          refine g_geti hx hb hB inB3 hown hK hH (c0 := c0) hc0.1 rfl 12 (by decide) k53 rfl rfl dX3_deliverStored_115 ?_
          refine lv_iadd hx hb dX3_deliverStored_118 ?_
          refine g_put hx hb hB inB3 tyX3 tyX3_ok nmX3 hown hK hH (c0 := c0) hc0.1 rfl 10 (by decide) k59 rfl rfl rfl rfl rfl dX3_deliverStored_119 (fun σ13 eσ13 H locs hH => ?_)
          replace h := h σ13 eσ13
          refine lv_iconst (v := 0) hx hb dX3_deliverStored_122 (by decide) ?_
          refine lv_istore_n (lv' := [(3, .int 0), (2, .int x2_4), (0, .ref (ga G c0)), (1, .int x1)]) hx hb dX3_deliverStored_123 rfl hl (by decide) rfl (fun ls hl => ?_)
          obtain ⟨nn, h⟩ := h
          exact L124 nn c0 hc0 x1 0 σ13 _ _ ls hH (lv_sub hl [2, 3, 0] rfl) h
  unfold wpX3_deliverStored at h
  refine lv_iconst (v := 0) hx hb dX3_deliverStored_0 (by decide) ?_
  refine lv_istore_n (lv' := [(1, .int 0), (0, .ref (ga G c0))]) hx hb dX3_deliverStored_1 rfl hl (by decide) rfl (fun ls hl => ?_)
  obtain ⟨nn, h⟩ := h
  exact L2 nn c0 hc0 0 σ _ _ ls hH (lv_sub hl [1, 0] rfl) h
def wpX3_writeReport_L134 (Q : Int32 → Sg → Prop) (K88 : Nat → Nat → Int32 → Int32 → Int32 → Sg → Prop) (c0 : Nat) (c1 : Nat) (x2 : Int32) (x3 : Int32) (x4 : Int32) (σ : Sg) : Prop := ∀ x4_16 : Int32, x4_16 = x4 + 1 → K88 c0 c1 x2 x3 x4_16 σ
def wpX3_writeReport_L88 (Q : Int32 → Sg → Prop) : Nat → Nat → Nat → Int32 → Int32 → Int32 → Sg → Prop
  | 0, _, _, _, _, _, _ => False
  | n + 1, c0, c1, x2, x3, x4, σ => ((x2 ≤ x4 → Q x3 σ) ∧ (¬ (x2 ≤ x4) → (vp_in ((((σ c0 7) + 1) + x4) &&& 31) 32 ∧ (((σ (c0 + 3) ((((σ c0 7) + 1) + x4) &&& 31).toNatClampNeg) ≤ 0 → wpX3_writeReport_L134 Q (wpX3_writeReport_L88 Q n) c0 c1 x2 x3 x4 σ) ∧ (¬ ((σ (c0 + 3) ((((σ c0 7) + 1) + x4) &&& 31).toNatClampNeg) ≤ 0) → (vp_in (2 + (x4 >>> ((3 : Int32) &&& 31))) 8 ∧ (vp_in (2 + (x4 >>> ((3 : Int32) &&& 31))) 8 ∧ ∀ σ14 : Sg, σ14 = up2 σ c1 ((2 + (x4 >>> ((3 : Int32) &&& 31))).toNatClampNeg) ((σ c1 (2 + (x4 >>> ((3 : Int32) &&& 31))).toNatClampNeg) ||| ((128 : Int32) >>> ((x4 &&& 7) &&& 31))) → wpX3_writeReport_L134 Q (wpX3_writeReport_L88 Q n) c0 c1 x2 x3 x4 σ14)))))))
def wpX3_writeReport_L33 (Q : Int32 → Sg → Prop) (K4 : Nat → Nat → Int32 → Int32 → Sg → Prop) (c0 : Nat) (c1 : Nat) (x2 : Int32) (x3 : Int32) (σ : Sg) : Prop := ∀ x3_15 : Int32, x3_15 = x3 + 1 → K4 c0 c1 x2 x3_15 σ
def wpX3_writeReport_L4 (Q : Int32 → Sg → Prop) : Nat → Nat → Nat → Int32 → Int32 → Sg → Prop
  | 0, _, _, _, _, _ => False
  | n + 1, c0, c1, x2, x3, σ => ((31 ≤ x3 → wpJ7_fill_53178 8 c1 0 σ (fun σ2 => ∀ x3_3 : Int32, x3_3 = 2 + ((x2 + 7) >>> ((3 : Int32) &&& 31)) → ((x3_3 ≤ (nI 8) → ∀ σ5 : Sg, σ5 = up2 σ2 c1 0 (((σ2 c0 7) >>> ((8 : Int32) &&& 31)) &&& 63) → ∀ σ6 : Sg, σ6 = up2 σ5 c1 1 ((σ5 c0 7) &&& 255) → ∃ nn, wpX3_writeReport_L88 Q nn c0 c1 x2 x3_3 0 σ6) ∧ (¬ (x3_3 ≤ (nI 8)) → Q 0 σ2)))) ∧ (¬ (31 ≤ x3) → (vp_in ((((σ c0 7) + 1) + x3) &&& 31) 32 ∧ (((σ (c0 + 3) ((((σ c0 7) + 1) + x3) &&& 31).toNatClampNeg) ≤ 0 → wpX3_writeReport_L33 Q (wpX3_writeReport_L4 Q n) c0 c1 x2 x3 σ) ∧ (¬ ((σ (c0 + 3) ((((σ c0 7) + 1) + x3) &&& 31).toNatClampNeg) ≤ 0) → ∀ x2_9 : Int32, x2_9 = x3 + 1 → wpX3_writeReport_L33 Q (wpX3_writeReport_L4 Q n) c0 c1 x2_9 x3 σ)))))
def wpX3_writeReport (c0 : Nat) (c1 : Nat) (σ : Sg) (Q : Int32 → Sg → Prop) : Prop := ∃ nn, wpX3_writeReport_L4 Q nn c0 c1 0 0 σ
set_option maxHeartbeats 8000000 in
set_option maxRecDepth 100000 in
theorem tX3_writeReport {l : Launch} {G : GG} {c0 : Nat} {c1 : Nat} {σ : Sg} {Q : Int32 → Sg → Prop} (hc0 : isInbox G c0) (hc1 : isI G 8 c1) (h : wpX3_writeReport c0 c1 σ Q) : Ki l G yX3_writeReport (wB yX3_writeReport prog_5_method_7_code 5 (Option.some FieldType.int)) ({ frames := 1, cells := 0, slots := 0, locals := 23 }) [.ref (ga G c0), .ref (ga G c1)] σ Q := by
  refine K_of (cc := cX3_writeReport) (maxL := 5) (ret := (some .int)) (by decide) rfl (Nat.le_of_ble_eq_true rfl) ?_
  intro p e s m args below meth c ls B hH hl
  obtain ⟨hx, hb, hr, hts, hown, hlk, hml, hK, hX⟩ := B
  replace hl : lv_has ls 5 [(0, .ref (ga G c0)), (1, .ref (ga G c1))] := hl
  have hB : ∀ w ∈ BIG, w.before args s = true := fun w h9 => hts w (List.mem_cons_of_mem _ h9)
  clear hts
  have k18 := hB _ bw1_223
  have k35 := hB _ bw1_226
  have L88 : ∀ (n88 : Nat) (c0 : Nat) (hc0 : isInbox G c0) (c1 : Nat) (hc1 : isI G 8 c1) (x2 : Int32) (x3 : Int32) (x4 : Int32) (σ : Sg) (H : Heap) (locs : List Loc) (ls : Array Slot), Hx G (aA G s.heap.size) s σ H locs → lv_has ls 5 [(0, .ref (ga G c0)), (1, .ref (ga G c1)), (2, .int x2), (3, .int x3), (4, .int x4)] → wpX3_writeReport_L88 Q n88 c0 c1 x2 x3 x4 σ → W p l e ({ frames := 1, cells := 0, slots := 0, locals := 23 }) s m args below meth c H locs 0 0 (Zi G Q below args s) (F0 m 88 ls []) := by
    intro n88
    induction n88 with
    | zero =>
      intro c0 hc0 c1 hc1 x2 x3 x4 σ H locs ls hH hl h
      exact False.elim h
    | succ n88 ih88 =>
      have L134 : ∀ (c0 : Nat) (hc0 : isInbox G c0) (c1 : Nat) (hc1 : isI G 8 c1) (x2 : Int32) (x3 : Int32) (x4 : Int32) (σ : Sg) (H : Heap) (locs : List Loc) (ls : Array Slot), Hx G (aA G s.heap.size) s σ H locs → lv_has ls 5 [(0, .ref (ga G c0)), (1, .ref (ga G c1)), (2, .int x2), (3, .int x3), (4, .int x4)] → wpX3_writeReport_L134 Q (wpX3_writeReport_L88 Q n88) c0 c1 x2 x3 x4 σ → W p l e ({ frames := 1, cells := 0, slots := 0, locals := 23 }) s m args below meth c H locs 0 0 (Zi G Q below args s) (F0 m 134 ls []) := by
        intro c0 hc0 c1 hc1 x2 x3 x4 σ H locs ls hH hl h
        unfold wpX3_writeReport_L134 at h
        obtain ⟨x4_16, ex4_16⟩ : ∃ y : Int32, y = x4 + 1 := ⟨_, rfl⟩
        replace h := h x4_16 ex4_16
        refine lv_iinc (v := x4_16) (lv' := [(4, .int x4_16), (0, .ref (ga G c0)), (1, .ref (ga G c1)), (2, .int x2), (3, .int x3)]) hx hb dX3_writeReport_134 hl (k := 4) rfl (by rw [ex4_16]; rfl) (by decide) rfl (fun ls hl => ?_)
        refine lv_goto (tgt := 88) hx hb dX3_writeReport_137 (by decide) ?_
        exact ih88 c0 hc0 c1 hc1 x2 x3 x4_16 σ _ _ ls hH (lv_sub hl [1, 2, 3, 4, 0] rfl) h
      intro c0 hc0 c1 hc1 x2 x3 x4 σ H locs ls hH hl h
      unfold wpX3_writeReport_L88 at h
      refine lv_iload hx hb dX3_writeReport_88 (lv_at hl 4 rfl) ?_
      refine lv_iload_n hx hb dX3_writeReport_90 rfl (lv_at hl 2 rfl) ?_
      refine lv_icmp_ge (tgt := 140) hx hb dX3_writeReport_91 (by decide) (fun q10 => ?_) (fun q10 => ?_)
      · replace h := h.1 q10
        refine lv_iload_n hx hb dX3_writeReport_140 rfl (lv_at hl 3 rfl) ?_
        exact g_iret hx hb hr hK hlk h hH dX3_writeReport_141
      · replace h := h.2 q10
        refine lv_aload_n hx hb dX3_writeReport_94 rfl (lv_at hl 0 rfl) ?_
        refine g_getr hx hb hB inB3 hown hK hH (c0 := c0) hc0.1 rfl 5 (by decide) k18 rfl (c1 := c0 + 3) rfl dX3_writeReport_95 ?_
        refine lv_aload_n hx hb dX3_writeReport_98 rfl (lv_at hl 0 rfl) ?_
        refine g_geti hx hb hB inB3 hown hK hH (c0 := c0) hc0.1 rfl 7 (by decide) k35 rfl rfl dX3_writeReport_99 ?_
        refine lv_iconst (v := 1) hx hb dX3_writeReport_102 (by decide) ?_
        refine lv_iadd hx hb dX3_writeReport_103 ?_
        refine lv_iload hx hb dX3_writeReport_104 (lv_at hl 4 rfl) ?_
        refine lv_iadd hx hb dX3_writeReport_106 ?_
        refine lv_bipush (v := 31) hx hb dX3_writeReport_107 (by decide) ?_
        refine lv_iand hx hb dX3_writeReport_109 ?_
        obtain ⟨hi11, h⟩ := h
        refine g_iald hx hb hK hH (c0 := c0 + 3) hc0.2.2.2.1 hi11 dX3_writeReport_110 ?_
        refine lv_if_le (tgt := 134) hx hb dX3_writeReport_111 (by decide) (fun q12 => ?_) (fun q12 => ?_)
        · replace h := h.1 q12
          exact L134 c0 hc0 c1 hc1 x2 x3 x4 σ _ _ ls hH (lv_sub hl [0, 1, 2, 3, 4] rfl) h
        · replace h := h.2 q12
          refine lv_aload_n hx hb dX3_writeReport_114 rfl (lv_at hl 1 rfl) ?_
          refine lv_iconst (v := 2) hx hb dX3_writeReport_115 (by decide) ?_
          refine lv_iload hx hb dX3_writeReport_116 (lv_at hl 4 rfl) ?_
          refine lv_iconst (v := 3) hx hb dX3_writeReport_118 (by decide) ?_
          refine lv_ishr hx hb dX3_writeReport_119 ?_
          refine lv_iadd hx hb dX3_writeReport_120 ?_
          refine lv_dup2_11 hx hb dX3_writeReport_121 rfl rfl ?_
          obtain ⟨hi13, h⟩ := h
          refine g_iald hx hb hK hH (c0 := c1) hc1 hi13 dX3_writeReport_122 ?_
          refine lv_sipush (v := 128) hx hb dX3_writeReport_123 (by decide) ?_
          refine lv_iload hx hb dX3_writeReport_126 (lv_at hl 4 rfl) ?_
          refine lv_bipush (v := 7) hx hb dX3_writeReport_128 (by decide) ?_
          refine lv_iand hx hb dX3_writeReport_130 ?_
          refine lv_ishr hx hb dX3_writeReport_131 ?_
          refine lv_ior hx hb dX3_writeReport_132 ?_
          obtain ⟨hi14, h⟩ := h
          refine g_iast hx hb hK hH (c0 := c1) (i := 2 + (x4 >>> ((3 : Int32) &&& 31))) hc1 hi14 dX3_writeReport_133 (fun σ14 eσ14 H locs hH => ?_)
          replace h := h σ14 eσ14
          exact L134 c0 hc0 c1 hc1 x2 x3 x4 σ14 _ _ ls hH (lv_sub hl [0, 1, 2, 3, 4] rfl) h
  have L4 : ∀ (n4 : Nat) (c0 : Nat) (hc0 : isInbox G c0) (c1 : Nat) (hc1 : isI G 8 c1) (x2 : Int32) (x3 : Int32) (σ : Sg) (H : Heap) (locs : List Loc) (ls : Array Slot), Hx G (aA G s.heap.size) s σ H locs → lv_has ls 5 [(0, .ref (ga G c0)), (1, .ref (ga G c1)), (2, .int x2), (3, .int x3)] → wpX3_writeReport_L4 Q n4 c0 c1 x2 x3 σ → W p l e ({ frames := 1, cells := 0, slots := 0, locals := 23 }) s m args below meth c H locs 0 0 (Zi G Q below args s) (F0 m 4 ls []) := by
    intro n4
    induction n4 with
    | zero =>
      intro c0 hc0 c1 hc1 x2 x3 σ H locs ls hH hl h
      exact False.elim h
    | succ n4 ih4 =>
      have L33 : ∀ (c0 : Nat) (hc0 : isInbox G c0) (c1 : Nat) (hc1 : isI G 8 c1) (x2 : Int32) (x3 : Int32) (σ : Sg) (H : Heap) (locs : List Loc) (ls : Array Slot), Hx G (aA G s.heap.size) s σ H locs → lv_has ls 5 [(0, .ref (ga G c0)), (1, .ref (ga G c1)), (2, .int x2), (3, .int x3)] → wpX3_writeReport_L33 Q (wpX3_writeReport_L4 Q n4) c0 c1 x2 x3 σ → W p l e ({ frames := 1, cells := 0, slots := 0, locals := 23 }) s m args below meth c H locs 0 0 (Zi G Q below args s) (F0 m 33 ls []) := by
        intro c0 hc0 c1 hc1 x2 x3 σ H locs ls hH hl h
        unfold wpX3_writeReport_L33 at h
        obtain ⟨x3_15, ex3_15⟩ : ∃ y : Int32, y = x3 + 1 := ⟨_, rfl⟩
        replace h := h x3_15 ex3_15
        refine lv_iinc (v := x3_15) (lv' := [(3, .int x3_15), (0, .ref (ga G c0)), (1, .ref (ga G c1)), (2, .int x2)]) hx hb dX3_writeReport_33 hl (k := 3) rfl (by rw [ex3_15]; rfl) (by decide) rfl (fun ls hl => ?_)
        refine lv_goto (tgt := 4) hx hb dX3_writeReport_36 (by decide) ?_
        exact ih4 c0 hc0 c1 hc1 x2 x3_15 σ _ _ ls hH (lv_sub hl [1, 2, 3, 0] rfl) h
      intro c0 hc0 c1 hc1 x2 x3 σ H locs ls hH hl h
      unfold wpX3_writeReport_L4 at h
      refine lv_iload_n hx hb dX3_writeReport_4 rfl (lv_at hl 3 rfl) ?_
      refine lv_bipush (v := 31) hx hb dX3_writeReport_5 (by decide) ?_
      refine lv_icmp_ge (tgt := 39) hx hb dX3_writeReport_7 (by decide) (fun q1 => ?_) (fun q1 => ?_)
      · replace h := h.1 q1
        refine lv_aload_n hx hb dX3_writeReport_39 rfl (lv_at hl 1 rfl) ?_
        refine lv_iconst (v := 0) hx hb dX3_writeReport_40 (by decide) ?_
        refine g_callSv (As := [.ref (ga G c1), .int 0]) (rest := []) ⟨hx, hb, hml, hown, hB⟩ hK hX aA_hA hH (tJ7_fill_53178 hc1 h) (va_cwS 2 hB gSX3_62 rfl rfl rfl (by decide +kernel) ⟨Nat.le_of_ble_eq_true rfl, Nat.le_of_ble_eq_true rfl⟩) rfl hl.1 rfl (lv_room (Nat.le_of_ble_eq_true rfl)) ⟨Nat.zero_le _, Nat.zero_le _⟩ dX3_writeReport_41 (fun σ2 H locs h hH => ?_)
        refine lv_iconst (v := 2) hx hb dX3_writeReport_44 (by decide) ?_
        refine lv_iload_n hx hb dX3_writeReport_45 rfl (lv_at hl 2 rfl) ?_
        refine lv_bipush (v := 7) hx hb dX3_writeReport_46 (by decide) ?_
        refine lv_iadd hx hb dX3_writeReport_48 ?_
        refine lv_iconst (v := 3) hx hb dX3_writeReport_49 (by decide) ?_
        refine lv_ishr hx hb dX3_writeReport_50 ?_
        refine lv_iadd hx hb dX3_writeReport_51 ?_
        refine lv_topi (fun x3_3 ex3_3 => ?_)
        replace h := h x3_3 ex3_3
        refine lv_istore_n (lv' := [(3, .int x3_3), (0, .ref (ga G c0)), (1, .ref (ga G c1)), (2, .int x2)]) hx hb dX3_writeReport_52 rfl hl (by decide) rfl (fun ls hl => ?_)
        refine lv_iload_n hx hb dX3_writeReport_53 rfl (lv_at hl 0 rfl) ?_
        refine lv_aload_n hx hb dX3_writeReport_54 rfl (lv_at hl 2 rfl) ?_
        refine g_aleni hx hb hK hH (c0 := c1) hc1 dX3_writeReport_55 ?_
        refine lv_icmp_le (tgt := 61) hx hb dX3_writeReport_56 (by decide) (fun q4 => ?_) (fun q4 => ?_)
        · replace h := h.1 q4
          refine lv_aload_n hx hb dX3_writeReport_61 rfl (lv_at hl 2 rfl) ?_
          refine lv_iconst (v := 0) hx hb dX3_writeReport_62 (by decide) ?_
          refine lv_aload_n hx hb dX3_writeReport_63 rfl (lv_at hl 1 rfl) ?_
          refine g_geti hx hb hB inB3 hown hK hH (c0 := c0) hc0.1 rfl 7 (by decide) k35 rfl rfl dX3_writeReport_64 ?_
          refine lv_bipush (v := 8) hx hb dX3_writeReport_67 (by decide) ?_
          refine lv_ishr hx hb dX3_writeReport_69 ?_
          refine lv_bipush (v := 63) hx hb dX3_writeReport_70 (by decide) ?_
          refine lv_iand hx hb dX3_writeReport_72 ?_
          refine g_iast hx hb hK hH (c0 := c1) (i := 0) hc1 (vp_in_nI (n := 0) (by decide) (by decide)) dX3_writeReport_73 (fun σ5 eσ5 H locs hH => ?_)
          replace h := h σ5 eσ5
          refine lv_aload_n hx hb dX3_writeReport_74 rfl (lv_at hl 2 rfl) ?_
          refine lv_iconst (v := 1) hx hb dX3_writeReport_75 (by decide) ?_
          refine lv_aload_n hx hb dX3_writeReport_76 rfl (lv_at hl 1 rfl) ?_
          refine g_geti hx hb hB inB3 hown hK hH (c0 := c0) hc0.1 rfl 7 (by decide) k35 rfl rfl dX3_writeReport_77 ?_
          refine lv_sipush (v := 255) hx hb dX3_writeReport_80 (by decide) ?_
          refine lv_iand hx hb dX3_writeReport_83 ?_
          refine g_iast hx hb hK hH (c0 := c1) (i := 1) hc1 (vp_in_nI (n := 1) (by decide) (by decide)) dX3_writeReport_84 (fun σ6 eσ6 H locs hH => ?_)
          replace h := h σ6 eσ6
          refine lv_iconst (v := 0) hx hb dX3_writeReport_85 (by decide) ?_
          refine lv_istore (lv' := [(4, .int 0), (3, .int x3_3), (0, .ref (ga G c0)), (1, .ref (ga G c1)), (2, .int x2)]) hx hb dX3_writeReport_86 hl (by decide) rfl (fun ls hl => ?_)
          obtain ⟨nn, h⟩ := h
          exact L88 nn c0 hc0 c1 hc1 x2 x3_3 0 σ6 _ _ ls hH (lv_sub hl [2, 3, 4, 1, 0] rfl) h
        · replace h := h.2 q4
          refine lv_iconst (v := 0) hx hb dX3_writeReport_59 (by decide) ?_
          exact g_iret hx hb hr hK hlk h hH dX3_writeReport_60
      · replace h := h.2 q1
        refine lv_aload_n hx hb dX3_writeReport_10 rfl (lv_at hl 0 rfl) ?_
        refine g_getr hx hb hB inB3 hown hK hH (c0 := c0) hc0.1 rfl 5 (by decide) k18 rfl (c1 := c0 + 3) rfl dX3_writeReport_11 ?_
        refine lv_aload_n hx hb dX3_writeReport_14 rfl (lv_at hl 0 rfl) ?_
        refine g_geti hx hb hB inB3 hown hK hH (c0 := c0) hc0.1 rfl 7 (by decide) k35 rfl rfl dX3_writeReport_15 ?_
        refine lv_iconst (v := 1) hx hb dX3_writeReport_18 (by decide) ?_
        refine lv_iadd hx hb dX3_writeReport_19 ?_
        refine lv_iload_n hx hb dX3_writeReport_20 rfl (lv_at hl 3 rfl) ?_
        refine lv_iadd hx hb dX3_writeReport_21 ?_
        refine lv_bipush (v := 31) hx hb dX3_writeReport_22 (by decide) ?_
        refine lv_iand hx hb dX3_writeReport_24 ?_
        obtain ⟨hi7, h⟩ := h
        refine g_iald hx hb hK hH (c0 := c0 + 3) hc0.2.2.2.1 hi7 dX3_writeReport_25 ?_
        refine lv_if_le (tgt := 33) hx hb dX3_writeReport_26 (by decide) (fun q8 => ?_) (fun q8 => ?_)
        · replace h := h.1 q8
          exact L33 c0 hc0 c1 hc1 x2 x3 σ _ _ ls hH (lv_sub hl [0, 1, 2, 3] rfl) h
        · replace h := h.2 q8
          refine lv_iload_n hx hb dX3_writeReport_29 rfl (lv_at hl 3 rfl) ?_
          refine lv_iconst (v := 1) hx hb dX3_writeReport_30 (by decide) ?_
          refine lv_iadd hx hb dX3_writeReport_31 ?_
          refine lv_topi (fun x2_9 ex2_9 => ?_)
          replace h := h x2_9 ex2_9
          refine lv_istore_n (lv' := [(2, .int x2_9), (0, .ref (ga G c0)), (1, .ref (ga G c1)), (3, .int x3)]) hx hb dX3_writeReport_32 rfl hl (by decide) rfl (fun ls hl => ?_)
          exact L33 c0 hc0 c1 hc1 x2_9 x3 σ _ _ ls hH (lv_sub hl [1, 2, 0, 3] rfl) h
  unfold wpX3_writeReport at h
  refine lv_iconst (v := 0) hx hb dX3_writeReport_0 (by decide) ?_
  refine lv_istore_n (lv' := [(2, .int 0), (0, .ref (ga G c0)), (1, .ref (ga G c1))]) hx hb dX3_writeReport_1 rfl hl (by decide) rfl (fun ls hl => ?_)
  refine lv_iconst (v := 0) hx hb dX3_writeReport_2 (by decide) ?_
  refine lv_istore_n (lv' := [(3, .int 0), (2, .int 0), (0, .ref (ga G c0)), (1, .ref (ga G c1))]) hx hb dX3_writeReport_3 rfl hl (by decide) rfl (fun ls hl => ?_)
  obtain ⟨nn, h⟩ := h
  exact L4 nn c0 hc0 c1 hc1 0 0 σ _ _ ls hH (lv_sub hl [2, 3, 1, 0] rfl) h

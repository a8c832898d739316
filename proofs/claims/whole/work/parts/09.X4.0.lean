def wpX4_addWaiting (c0 : Nat) (x1 : Int32) (σ : Sg) (Q : Sg → Prop) : Prop := (((nI 32) ≤ (σ c0 9) → Q σ) ∧ (¬ ((nI 32) ≤ (σ c0 9)) → ∀ σ2 : Sg, σ2 = up2 σ c0 9 ((σ c0 9) + 1) → (vp_in (σ c0 9) 32 ∧ ∀ σ3 : Sg, σ3 = up2 σ2 (c0 + 5) ((σ c0 9).toNatClampNeg) x1 → Q σ3)))
set_option maxHeartbeats 8000000 in
set_option maxRecDepth 100000 in
theorem tX4_addWaiting {l : Launch} {G : GG} {c0 : Nat} {x1 : Int32} {σ : Sg} {Q : Sg → Prop} (hc0 : isOutbox G c0) (h : wpX4_addWaiting c0 x1 σ Q) : Kv l G yX4_addWaiting (wB yX4_addWaiting prog_6_method_3_code 2 none) ({ frames := 0, cells := 0, slots := 0, locals := 0 }) [.ref (ga G c0), .int x1] σ Q := by
  refine K_of (cc := cX4_addWaiting) (maxL := 2) (ret := none) (by decide) rfl (Nat.le_of_ble_eq_true rfl) ?_
  intro p e s m args below meth c ls B hH hl
  obtain ⟨hx, hb, hr, hts, hown, hlk, hml, hK, hX⟩ := B
  replace hl : lv_has ls 2 [(0, .ref (ga G c0)), (1, .int x1)] := hl
  have hB : ∀ w ∈ BIG, w.before args s = true := fun w h9 => hts w (List.mem_cons_of_mem _ h9)
  clear hts
  have k25 := hB _ bw1_72
  have k57 := hB _ bw1_73
  unfold wpX4_addWaiting at h
  refine lv_aload_n hx hb dX4_addWaiting_0 rfl (lv_at hl 0 rfl) ?_
  refine g_geti hx hb hB inB4 hown hK hH (c0 := c0) hc0.1 rfl 9 (by decide) k57 rfl rfl dX4_addWaiting_1 ?_
  refine lv_aload_n hx hb dX4_addWaiting_4 rfl (lv_at hl 0 rfl) ?_
  refine g_getr hx hb hB inB4 hown hK hH (c0 := c0) hc0.1 rfl 8 (by decide) k25 rfl (c1 := c0 + 5) rfl dX4_addWaiting_5 ?_
  refine g_aleni hx hb hK hH (c0 := c0 + 5) hc0.2.2.2.2.2.1 dX4_addWaiting_8 ?_
  refine lv_icmp_ge (tgt := 29) hx hb dX4_addWaiting_9 (by decide) (fun q1 => ?_) (fun q1 => ?_)
  · replace h := h.1 q1
    exact g_vret hx hb hr hK hlk h hH dX4_addWaiting_29
  · replace h := h.2 q1
    refine lv_aload_n hx hb dX4_addWaiting_12 rfl (lv_at hl 0 rfl) ?_
    refine g_getr hx hb hB inB4 hown hK hH (c0 := c0) hc0.1 rfl 8 (by decide) k25 rfl (c1 := c0 + 5) rfl dX4_addWaiting_13 ?_
    refine lv_aload_n hx hb dX4_addWaiting_16 rfl (lv_at hl 0 rfl) ?_
    refine lv_dup hx hb dX4_addWaiting_17 rfl ?_
    refine g_geti hx hb hB inB4 hown hK hH (c0 := c0) hc0.1 rfl 9 (by decide) k57 rfl rfl dX4_addWaiting_18 ?_
    refine lv_dup_x1 hx hb dX4_addWaiting_21 rfl rfl ?_
    refine lv_iconst (v := 1) hx hb dX4_addWaiting_22 (by decide) ?_
    refine lv_iadd hx hb dX4_addWaiting_23 ?_
    refine g_put hx hb hB inB4 tyX4 tyX4_ok nmX4 hown hK hH (c0 := c0) hc0.1 rfl 9 (by decide) k57 rfl rfl rfl rfl rfl dX4_addWaiting_24 (fun σ2 eσ2 H locs hH => ?_)
    replace h := h σ2 eσ2
    refine lv_iload_n hx hb dX4_addWaiting_27 rfl (lv_at hl 1 rfl) ?_
    obtain ⟨hi3, h⟩ := h
    refine g_iast hx hb hK hH (c0 := c0 + 5) (i := σ c0 9) hc0.2.2.2.2.2.1 hi3 dX4_addWaiting_28 (fun σ3 eσ3 H locs hH => ?_)
    replace h := h σ3 eσ3
    exact g_vret hx hb hr hK hlk h hH dX4_addWaiting_29
def wpX4_takeUnit (c0 : Nat) (c1 : Nat) (x2 : Int32) (σ : Sg) (Q : Int32 → Sg → Prop) : Prop := ((((σ c0 6) + 24) ≤ (σ c0 7) → Q (-1) σ) ∧ (¬ (((σ c0 6) + 24) ≤ (σ c0 7)) → ((x2 < 1 → Q (-1) σ) ∧ (¬ (x2 < 1) → ((120 < x2 → Q (-1) σ) ∧ (¬ (120 < x2) → ((x2 ≤ (nI 120) → ∀ x3_5 : Int32, x3_5 = (σ c0 7) &&& 31 → (¬ (0 : Int32) < 0 ∧ ¬ (x3_5 * 120) < 0 ∧ ¬ x2 < 0 ∧ (0 : Int32).toNatClampNeg + x2.toNatClampNeg ≤ 120 ∧ (x3_5 * 120).toNatClampNeg + x2.toNatClampNeg ≤ 3840 ∧ ∀ σ6 : Sg, σ6 = va_up σ (c0 + 1) (va_cpy (σ c1) (σ (c0 + 1)) (0 : Int32).toNatClampNeg (x3_5 * 120).toNatClampNeg x2.toNatClampNeg) → (vp_in x3_5 32 ∧ ∀ σ7 : Sg, σ7 = up2 σ6 (c0 + 2) x3_5.toNatClampNeg x2 → (vp_in x3_5 32 ∧ ∀ σ8 : Sg, σ8 = up2 σ7 (c0 + 3) x3_5.toNatClampNeg 1 → (vp_in x3_5 32 ∧ ∀ σ9 : Sg, σ9 = up2 σ8 (c0 + 4) x3_5.toNatClampNeg (x2 + 1) → ∀ σ10 : Sg, σ10 = up2 σ9 c0 5 ((σ9 c0 5) + 1) → wpX4_addWaiting c0 (σ10 c0 7) σ10 (fun σ11 => ∀ σ12 : Sg, σ12 = up2 σ11 c0 7 ((σ11 c0 7) + 1) → Q (σ11 c0 7) σ12)))))) ∧ (¬ (x2 ≤ (nI 120)) → Q (-1) σ))))))))
set_option maxHeartbeats 8000000 in
set_option maxRecDepth 100000 in
theorem tX4_takeUnit {l : Launch} {G : GG} {c0 : Nat} {c1 : Nat} {x2 : Int32} {σ : Sg} {Q : Int32 → Sg → Prop} (hc0 : isOutbox G c0) (hc1 : isI G 120 c1) (h : wpX4_takeUnit c0 c1 x2 σ Q) : Ki l G yX4_takeUnit (wB yX4_takeUnit prog_6_method_2_code 4 (Option.some FieldType.int)) ({ frames := 1, cells := 0, slots := 0, locals := 21 }) [.ref (ga G c0), .ref (ga G c1), .int x2] σ Q := by
  refine K_of (cc := cX4_takeUnit) (maxL := 4) (ret := (some .int)) (by decide) rfl (Nat.le_of_ble_eq_true rfl) ?_
  intro p e s m args below meth c ls B hH hl
  obtain ⟨hx, hb, hr, hts, hown, hlk, hml, hK, hX⟩ := B
  replace hl : lv_has ls 4 [(0, .ref (ga G c0)), (1, .ref (ga G c1)), (2, .int x2)] := hl
  have hB : ∀ w ∈ BIG, w.before args s = true := fun w h9 => hts w (List.mem_cons_of_mem _ h9)
  clear hts
  have k9 := hB _ bw1_63
  have k15 := hB _ bw1_64
  have k18 := hB _ bw1_65
  have k22 := hB _ bw1_66
  have k38 := hB _ bw1_70
  have k41 := hB _ bw1_69
  have k50 := hB _ bw1_67
  have k44 := hB _ bw2_193
  have kc1 := hB _ bw2_195
  have kc2 := hB _ bw2_194
  have kc3 := hB _ bw1_11
  unfold wpX4_takeUnit at h
  refine lv_aload_n hx hb dX4_takeUnit_0 rfl (lv_at hl 0 rfl) ?_
  refine g_geti hx hb hB inB4 hown hK hH (c0 := c0) hc0.1 rfl 7 (by decide) k38 rfl rfl dX4_takeUnit_1 ?_
  refine lv_aload_n hx hb dX4_takeUnit_4 rfl (lv_at hl 0 rfl) ?_
  refine g_geti hx hb hB inB4 hown hK hH (c0 := c0) hc0.1 rfl 6 (by decide) k41 rfl rfl dX4_takeUnit_5 ?_
  refine lv_bipush (v := 24) hx hb dX4_takeUnit_8 (by decide) ?_
  refine lv_iadd hx hb dX4_takeUnit_10 ?_
  refine lv_icmp_ge (tgt := 31) hx hb dX4_takeUnit_11 (by decide) (fun q1 => ?_) (fun q1 => ?_)
  · replace h := h.1 q1
    refine lv_iconst (v := (-1)) hx hb dX4_takeUnit_31 (by decide) ?_
    exact g_iret hx hb hr hK hlk h hH dX4_takeUnit_32
  · replace h := h.2 q1
    refine lv_iload_n hx hb dX4_takeUnit_14 rfl (lv_at hl 2 rfl) ?_
    refine lv_iconst (v := 1) hx hb dX4_takeUnit_15 (by decide) ?_
    refine lv_icmp_lt (tgt := 31) hx hb dX4_takeUnit_16 (by decide) (fun q2 => ?_) (fun q2 => ?_)
    · replace h := h.1 q2
      refine lv_iconst (v := (-1)) hx hb dX4_takeUnit_31 (by decide) ?_
      exact g_iret hx hb hr hK hlk h hH dX4_takeUnit_32
    · replace h := h.2 q2
      refine lv_iload_n hx hb dX4_takeUnit_19 rfl (lv_at hl 2 rfl) ?_
      refine lv_bipush (v := 120) hx hb dX4_takeUnit_20 (by decide) ?_
      refine lv_icmp_gt (tgt := 31) hx hb dX4_takeUnit_22 (by decide) (fun q3 => ?_) (fun q3 => ?_)
      · replace h := h.1 q3
        refine lv_iconst (v := (-1)) hx hb dX4_takeUnit_31 (by decide) ?_
        exact g_iret hx hb hr hK hlk h hH dX4_takeUnit_32
      · replace h := h.2 q3
        refine lv_iload_n hx hb dX4_takeUnit_25 rfl (lv_at hl 2 rfl) ?_
        refine lv_aload_n hx hb dX4_takeUnit_26 rfl (lv_at hl 1 rfl) ?_
        refine g_aleni hx hb hK hH (c0 := c1) hc1 dX4_takeUnit_27 ?_
        refine lv_icmp_le (tgt := 33) hx hb dX4_takeUnit_28 (by decide) (fun q4 => ?_) (fun q4 => ?_)
        · replace h := h.1 q4
          refine lv_aload_n hx hb dX4_takeUnit_33 rfl (lv_at hl 0 rfl) ?_
          refine g_geti hx hb hB inB4 hown hK hH (c0 := c0) hc0.1 rfl 7 (by decide) k38 rfl rfl dX4_takeUnit_34 ?_
          refine lv_bipush (v := 31) hx hb dX4_takeUnit_37 (by decide) ?_
          refine lv_iand hx hb dX4_takeUnit_39 ?_
          refine lv_topi (fun x3_5 ex3_5 => ?_)
          replace h := h x3_5 ex3_5
          refine lv_istore_n (lv' := [(3, .int x3_5), (0, .ref (ga G c0)), (1, .ref (ga G c1)), (2, .int x2)]) hx hb dX4_takeUnit_40 rfl hl (by decide) rfl (fun ls hl => ?_)
          refine lv_aload_n hx hb dX4_takeUnit_41 rfl (lv_at hl 2 rfl) ?_
          refine lv_iconst (v := 0) hx hb dX4_takeUnit_42 (by decide) ?_
          refine lv_aload_n hx hb dX4_takeUnit_43 rfl (lv_at hl 1 rfl) ?_
          refine g_getr hx hb hB inB4 hown hK hH (c0 := c0) hc0.1 rfl 1 (by decide) k9 rfl (c1 := c0 + 1) rfl dX4_takeUnit_44 ?_
          refine lv_iload_n hx hb dX4_takeUnit_47 rfl (lv_at hl 0 rfl) ?_
          refine lv_bipush (v := 120) hx hb dX4_takeUnit_48 (by decide) ?_
          refine lv_imul hx hb dX4_takeUnit_50 ?_
          refine lv_iload_n hx hb dX4_takeUnit_51 rfl (lv_at hl 3 rfl) ?_
          obtain ⟨j61, j62, j63, j64, j65, h⟩ := h
          refine g_copy hx hb (hml.trans hl.1.symm) hown k44 kc1 kc2 kc3 hK hH (c0 := c1) (c1 := c0 + 1) hc1 hc0.2.1 j61 j62 j63 j64 j65 (Nat.le_of_ble_eq_true rfl) (Nat.le_of_ble_eq_true rfl) dX4_takeUnit_52 (fun σ6 eσ6 H locs hH => ?_)
          replace h := h σ6 eσ6
          refine lv_aload_n hx hb dX4_takeUnit_55 rfl (lv_at hl 1 rfl) ?_
          refine g_getr hx hb hB inB4 hown hK hH (c0 := c0) hc0.1 rfl 2 (by decide) k15 rfl (c1 := c0 + 2) rfl dX4_takeUnit_56 ?_
          refine lv_iload_n hx hb dX4_takeUnit_59 rfl (lv_at hl 0 rfl) ?_
          refine lv_iload_n hx hb dX4_takeUnit_60 rfl (lv_at hl 3 rfl) ?_
          obtain ⟨hi7, h⟩ := h
          refine g_iast hx hb hK hH (c0 := c0 + 2) (i := x3_5) hc0.2.2.1 hi7 dX4_takeUnit_61 (fun σ7 eσ7 H locs hH => ?_)
          replace h := h σ7 eσ7
          refine lv_aload_n hx hb dX4_takeUnit_62 rfl (lv_at hl 1 rfl) ?_
          refine g_getr hx hb hB inB4 hown hK hH (c0 := c0) hc0.1 rfl 3 (by decide) k18 rfl (c1 := c0 + 3) rfl dX4_takeUnit_63 ?_
          refine lv_iload_n hx hb dX4_takeUnit_66 rfl (lv_at hl 0 rfl) ?_
          refine lv_iconst (v := 1) hx hb dX4_takeUnit_67 (by decide) ?_
          obtain ⟨hi8, h⟩ := h
          refine g_zast hx hb hK hH (c0 := c0 + 3) (i := x3_5) hc0.2.2.2.1 vz1 hi8 dX4_takeUnit_68 (fun σ8 eσ8 H locs hH => ?_)
          replace h := h σ8 eσ8
          refine lv_aload_n hx hb dX4_takeUnit_69 rfl (lv_at hl 1 rfl) ?_
          refine g_getr hx hb hB inB4 hown hK hH (c0 := c0) hc0.1 rfl 4 (by decide) k22 rfl (c1 := c0 + 4) rfl dX4_takeUnit_70 ?_
          refine lv_iload_n hx hb dX4_takeUnit_73 rfl (lv_at hl 0 rfl) ?_
          refine lv_iload_n hx hb dX4_takeUnit_74 rfl (lv_at hl 3 rfl) ?_
          refine lv_iconst (v := 1) hx hb dX4_takeUnit_75 (by decide) ?_
          refine lv_iadd hx hb dX4_takeUnit_76 ?_
          obtain ⟨hi9, h⟩ := h
          refine g_iast hx hb hK hH (c0 := c0 + 4) (i := x3_5) hc0.2.2.2.2.1 hi9 dX4_takeUnit_77 (fun σ9 eσ9 H locs hH => ?_)
          replace h := h σ9 eσ9
          refine lv_aload_n hx hb dX4_takeUnit_78 rfl (lv_at hl 1 rfl) ?_
          refine lv_dup hx hb dX4_takeUnit_79 rfl ?_
          refine g_geti hx hb hB inB4 hown hK hH (c0 := c0) hc0.1 rfl 5 (by decide) k50 rfl rfl dX4_takeUnit_80 ?_
          refine lv_iconst (v := 1) hx hb dX4_takeUnit_83 (by decide) ?_
          refine lv_iadd hx hb dX4_takeUnit_84 ?_
          refine g_put hx hb hB inB4 tyX4 tyX4_ok nmX4 hown hK hH (c0 := c0) hc0.1 rfl 5 (by decide) k50 rfl rfl rfl rfl rfl dX4_takeUnit_85 (fun σ10 eσ10 H locs hH => ?_)
          replace h := h σ10 eσ10
          refine lv_aload_n hx hb dX4_takeUnit_88 rfl (lv_at hl 1 rfl) ?_
          refine lv_aload_n hx hb dX4_takeUnit_89 rfl (lv_at hl 1 rfl) ?_
          refine g_geti hx hb hB inB4 hown hK hH (c0 := c0) hc0.1 rfl 7 (by decide) k38 rfl rfl dX4_takeUnit_90 ?_
          refine g_callVv (As := [.int (σ10 c0 7)]) (rest := []) ⟨hx, hb, hml, hown, hB⟩ hK hX aA_hA hH (c0 := c0) (tX4_addWaiting hc0 h) (cwV 1 hB gVX4_53 rfl rfl rfl (by decide +kernel) ⟨Nat.le_of_ble_eq_true rfl, Nat.le_of_ble_eq_true rfl⟩) hc0.1 rfl rfl hl.1 rfl (lv_room (Nat.le_of_ble_eq_true rfl)) ⟨Nat.zero_le _, Nat.zero_le _⟩ dX4_takeUnit_93 (fun σ11 H locs h hH => ?_)
          refine lv_aload_n hx hb dX4_takeUnit_96 rfl (lv_at hl 1 rfl) ?_
          refine lv_dup hx hb dX4_takeUnit_97 rfl ?_
          refine g_geti hx hb hB inB4 hown hK hH (c0 := c0) hc0.1 rfl 7 (by decide) k38 rfl rfl dX4_takeUnit_98 ?_
          refine lv_dup_x1 hx hb dX4_takeUnit_101 rfl rfl ?_
          refine lv_iconst (v := 1) hx hb dX4_takeUnit_102 (by decide) ?_
          refine lv_iadd hx hb dX4_takeUnit_103 ?_
          refine g_put hx hb hB inB4 tyX4 tyX4_ok nmX4 hown hK hH (c0 := c0) hc0.1 rfl 7 (by decide) k38 rfl rfl rfl rfl rfl dX4_takeUnit_104 (fun σ12 eσ12 H locs hH => ?_)
          replace h := h σ12 eσ12
          exact g_iret hx hb hr hK hlk h hH dX4_takeUnit_107
        · replace h := h.2 q4
          refine lv_iconst (v := (-1)) hx hb dX4_takeUnit_31 (by decide) ?_
          exact g_iret hx hb hr hK hlk h hH dX4_takeUnit_32
def wpX4_dropFront_L39 (Q : Sg → Prop) (c0 : Nat) (σ : Sg) : Prop := ∀ w6 : Int32, w6 = (if ((σ c0 9) - 1) < 0 then 0 else ((σ c0 9) - 1)) → ∀ σ7 : Sg, σ7 = up2 σ c0 9 w6 → ∀ σ8 : Sg, σ8 = up2 σ7 c0 12 0 → Q σ8
def wpX4_dropFront_L2 (Q : Sg → Prop) : Nat → Nat → Int32 → Sg → Prop
  | 0, _, _, _ => False
  | n + 1, c0, x1, σ => (((σ c0 9) ≤ x1 → wpX4_dropFront_L39 Q c0 σ) ∧ (¬ ((σ c0 9) ≤ x1) → (((nI 32) ≤ x1 → wpX4_dropFront_L39 Q c0 σ) ∧ (¬ ((nI 32) ≤ x1) → (vp_in x1 32 ∧ (vp_in (x1 - 1) 32 ∧ ∀ σ4 : Sg, σ4 = up2 σ (c0 + 5) ((x1 - 1).toNatClampNeg) (σ (c0 + 5) x1.toNatClampNeg) → ∀ x1_5 : Int32, x1_5 = x1 + 1 → (wpX4_dropFront_L2 Q n) c0 x1_5 σ4))))))
def wpX4_dropFront (c0 : Nat) (σ : Sg) (Q : Sg → Prop) : Prop := ∃ nn, wpX4_dropFront_L2 Q nn c0 1 σ
set_option maxHeartbeats 8000000 in
set_option maxRecDepth 100000 in
theorem tX4_dropFront {l : Launch} {G : GG} {c0 : Nat} {σ : Sg} {Q : Sg → Prop} (hc0 : isOutbox G c0) (h : wpX4_dropFront c0 σ Q) : Kv l G yX4_dropFront (wB yX4_dropFront prog_6_method_4_code 2 none) ({ frames := 1, cells := 0, slots := 0, locals := 14 }) [.ref (ga G c0)] σ Q := by
  refine K_of (cc := cX4_dropFront) (maxL := 2) (ret := none) (by decide) rfl (Nat.le_of_ble_eq_true rfl) ?_
  intro p e s m args below meth c ls B hH hl
  obtain ⟨hx, hb, hr, hts, hown, hlk, hml, hK, hX⟩ := B
  replace hl : lv_has ls 2 [(0, .ref (ga G c0))] := hl
  have hB : ∀ w ∈ BIG, w.before args s = true := fun w h9 => hts w (List.mem_cons_of_mem _ h9)
  clear hts
  have k25 := hB _ bw1_72
  have k57 := hB _ bw1_73
  have k66 := hB _ bw1_77
  have k60 := hB _ bw3_137
  have kmmax1 := hB _ bw2_233
  have km2 := hB _ bw1_12
  have kmmax3 : (Cond.code Lib.Math.max.name Lib.Math.max.code 2 (some .int)).before args s = true := hB _ bw2_234
  have L39 : ∀ (c0 : Nat) (hc0 : isOutbox G c0) (σ : Sg) (H : Heap) (locs : List Loc) (ls : Array Slot), Hx G (aA G s.heap.size) s σ H locs → lv_has ls 2 [(0, .ref (ga G c0))] → wpX4_dropFront_L39 Q c0 σ → W p l e ({ frames := 1, cells := 0, slots := 0, locals := 14 }) s m args below meth c H locs 0 0 (Zv G Q below args s) (F0 m 39 ls []) := by
    intro c0 hc0 σ H locs ls hH hl h
    unfold wpX4_dropFront_L39 at h
    refine lv_aload_n hx hb dX4_dropFront_39 rfl (lv_at hl 0 rfl) ?_
    refine lv_aload_n hx hb dX4_dropFront_40 rfl (lv_at hl 0 rfl) ?_
    refine g_geti hx hb hB inB4 hown hK hH (c0 := c0) hc0.1 rfl 9 (by decide) k57 rfl rfl dX4_dropFront_41 ?_
    refine lv_iconst (v := 1) hx hb dX4_dropFront_44 (by decide) ?_
    refine lv_isub hx hb dX4_dropFront_45 ?_
    refine lv_iconst (v := 0) hx hb dX4_dropFront_46 (by decide) ?_
    refine va_mmax hx hb (hml.trans hl.1.symm) hown k60 kmmax1 km2 kmmax3 (Nat.le_of_ble_eq_true rfl) (Nat.le_of_ble_eq_true rfl) (Nat.zero_le _) (Nat.zero_le _) dX4_dropFront_47 ?_
    refine lv_topi (fun w6 ew6 => ?_)
    replace h := h w6 ew6
    refine g_put hx hb hB inB4 tyX4 tyX4_ok nmX4 hown hK hH (c0 := c0) hc0.1 rfl 9 (by decide) k57 rfl rfl rfl rfl rfl dX4_dropFront_50 (fun σ7 eσ7 H locs hH => ?_)
    replace h := h σ7 eσ7
    refine lv_aload_n hx hb dX4_dropFront_53 rfl (lv_at hl 0 rfl) ?_
    refine lv_iconst (v := 0) hx hb dX4_dropFront_54 (by decide) ?_
    refine g_put hx hb hB inB4 tyX4 tyX4_ok nmX4 hown hK hH (c0 := c0) hc0.1 rfl 12 (by decide) k66 rfl rfl rfl rfl rfl dX4_dropFront_55 (fun σ8 eσ8 H locs hH => ?_)
    replace h := h σ8 eσ8
    exact g_vret hx hb hr hK hlk h hH dX4_dropFront_58
  have L2 : ∀ (n2 : Nat) (c0 : Nat) (hc0 : isOutbox G c0) (x1 : Int32) (σ : Sg) (H : Heap) (locs : List Loc) (ls : Array Slot), Hx G (aA G s.heap.size) s σ H locs → lv_has ls 2 [(0, .ref (ga G c0)), (1, .int x1)] → wpX4_dropFront_L2 Q n2 c0 x1 σ → W p l e ({ frames := 1, cells := 0, slots := 0, locals := 14 }) s m args below meth c H locs 0 0 (Zv G Q below args s) (F0 m 2 ls []) := by
    intro n2
    induction n2 with
    | zero =>
      intro c0 hc0 x1 σ H locs ls hH hl h
      exact False.elim h
    | succ n2 ih2 =>
      intro c0 hc0 x1 σ H locs ls hH hl h
      unfold wpX4_dropFront_L2 at h
      refine lv_iload_n hx hb dX4_dropFront_2 rfl (lv_at hl 1 rfl) ?_
      refine lv_aload_n hx hb dX4_dropFront_3 rfl (lv_at hl 0 rfl) ?_
      refine g_geti hx hb hB inB4 hown hK hH (c0 := c0) hc0.1 rfl 9 (by decide) k57 rfl rfl dX4_dropFront_4 ?_
      refine lv_icmp_ge (tgt := 39) hx hb dX4_dropFront_7 (by decide) (fun q1 => ?_) (fun q1 => ?_)
      · replace h := h.1 q1
        exact L39 c0 hc0 σ _ _ ls hH (lv_sub hl [0] rfl) h
      · replace h := h.2 q1
        refine lv_iload_n hx hb dX4_dropFront_10 rfl (lv_at hl 1 rfl) ?_
        refine lv_aload_n hx hb dX4_dropFront_11 rfl (lv_at hl 0 rfl) ?_
        refine g_getr hx hb hB inB4 hown hK hH (c0 := c0) hc0.1 rfl 8 (by decide) k25 rfl (c1 := c0 + 5) rfl dX4_dropFront_12 ?_
        refine g_aleni hx hb hK hH (c0 := c0 + 5) hc0.2.2.2.2.2.1 dX4_dropFront_15 ?_
        refine lv_icmp_ge (tgt := 39) hx hb dX4_dropFront_16 (by decide) (fun q2 => ?_) (fun q2 => ?_)
        · replace h := h.1 q2
          exact L39 c0 hc0 σ _ _ ls hH (lv_sub hl [0] rfl) h
        · replace h := h.2 q2
          refine lv_aload_n hx hb dX4_dropFront_19 rfl (lv_at hl 0 rfl) ?_
          refine g_getr hx hb hB inB4 hown hK hH (c0 := c0) hc0.1 rfl 8 (by decide) k25 rfl (c1 := c0 + 5) rfl dX4_dropFront_20 ?_
          refine lv_iload_n hx hb dX4_dropFront_23 rfl (lv_at hl 1 rfl) ?_
          refine lv_iconst (v := 1) hx hb dX4_dropFront_24 (by decide) ?_
          refine lv_isub hx hb dX4_dropFront_25 ?_
          refine lv_aload_n hx hb dX4_dropFront_26 rfl (lv_at hl 0 rfl) ?_
          refine g_getr hx hb hB inB4 hown hK hH (c0 := c0) hc0.1 rfl 8 (by decide) k25 rfl (c1 := c0 + 5) rfl dX4_dropFront_27 ?_
          refine lv_iload_n hx hb dX4_dropFront_30 rfl (lv_at hl 1 rfl) ?_
          obtain ⟨hi3, h⟩ := h
          refine g_iald hx hb hK hH (c0 := c0 + 5) hc0.2.2.2.2.2.1 hi3 dX4_dropFront_31 ?_
          obtain ⟨hi4, h⟩ := h
          refine g_iast hx hb hK hH (c0 := c0 + 5) (i := x1 - 1) hc0.2.2.2.2.2.1 hi4 dX4_dropFront_32 (fun σ4 eσ4 H locs hH => ?_)
          replace h := h σ4 eσ4
          obtain ⟨x1_5, ex1_5⟩ : ∃ y : Int32, y = x1 + 1 := ⟨_, rfl⟩
          replace h := h x1_5 ex1_5
          refine lv_iinc (v := x1_5) (lv' := [(1, .int x1_5), (0, .ref (ga G c0))]) hx hb dX4_dropFront_33 hl (k := 1) rfl (by rw [ex1_5]; rfl) (by decide) rfl (fun ls hl => ?_)
          refine lv_goto (tgt := 2) hx hb dX4_dropFront_36 (by decide) ?_
          exact ih2 c0 hc0 x1_5 σ4 _ _ ls hH (lv_sub hl [1, 0] rfl) h
  unfold wpX4_dropFront at h
  refine lv_iconst (v := 1) hx hb dX4_dropFront_0 (by decide) ?_
  refine lv_istore_n (lv' := [(1, .int 1), (0, .ref (ga G c0))]) hx hb dX4_dropFront_1 rfl hl (by decide) rfl (fun ls hl => ?_)
  obtain ⟨nn, h⟩ := h
  exact L2 nn c0 hc0 1 σ _ _ ls hH (lv_sub hl [1, 0] rfl) h
def wpX4_packetSize (c0 : Nat) (x1 : Int32) (σ : Sg) (Q : Int32 → Sg → Prop) : Prop := ((¬ x1 = (-1) → (vp_in (x1 &&& 31) 32 ∧ Q ((σ (c0 + 2) (x1 &&& 31).toNatClampNeg) + 1) σ)) ∧ (x1 = (-1) → Q (σ c0 14) σ))
set_option maxHeartbeats 8000000 in
set_option maxRecDepth 100000 in
theorem tX4_packetSize {l : Launch} {G : GG} {c0 : Nat} {x1 : Int32} {σ : Sg} {Q : Int32 → Sg → Prop} (hc0 : isOutbox G c0) (h : wpX4_packetSize c0 x1 σ Q) : Ki l G yX4_packetSize (wB yX4_packetSize prog_6_method_5_code 2 (Option.some FieldType.int)) ({ frames := 0, cells := 0, slots := 0, locals := 0 }) [.ref (ga G c0), .int x1] σ Q := by
  refine K_of (cc := cX4_packetSize) (maxL := 2) (ret := (some .int)) (by decide) rfl (Nat.le_of_ble_eq_true rfl) ?_
  intro p e s m args below meth c ls B hH hl
  obtain ⟨hx, hb, hr, hts, hown, hlk, hml, hK, hX⟩ := B
  replace hl : lv_has ls 2 [(0, .ref (ga G c0)), (1, .int x1)] := hl
  have hB : ∀ w ∈ BIG, w.before args s = true := fun w h9 => hts w (List.mem_cons_of_mem _ h9)
  clear hts
  have k15 := hB _ bw1_64
  have k69 := hB _ bw1_80
  unfold wpX4_packetSize at h
  refine lv_iload_n hx hb dX4_packetSize_0 rfl (lv_at hl 1 rfl) ?_
  refine lv_iconst (v := (-1)) hx hb dX4_packetSize_1 (by decide) ?_
  refine lv_icmp_ne (tgt := 12) hx hb dX4_packetSize_2 (by decide) (fun q1 => ?_) (fun q1 => ?_)
  · replace h := h.1 q1
    refine lv_aload_n hx hb dX4_packetSize_12 rfl (lv_at hl 0 rfl) ?_
    refine g_getr hx hb hB inB4 hown hK hH (c0 := c0) hc0.1 rfl 2 (by decide) k15 rfl (c1 := c0 + 2) rfl dX4_packetSize_13 ?_
    refine lv_iload_n hx hb dX4_packetSize_16 rfl (lv_at hl 1 rfl) ?_
    refine lv_bipush (v := 31) hx hb dX4_packetSize_17 (by decide) ?_
    refine lv_iand hx hb dX4_packetSize_19 ?_
    obtain ⟨hi2, h⟩ := h
    refine g_iald hx hb hK hH (c0 := c0 + 2) hc0.2.2.1 hi2 dX4_packetSize_20 ?_
    refine lv_iconst (v := 1) hx hb dX4_packetSize_21 (by decide) ?_
    refine lv_iadd hx hb dX4_packetSize_22 ?_
    exact g_iret hx hb hr hK hlk h hH dX4_packetSize_23
  · replace h := h.2 q1
    refine lv_aload_n hx hb dX4_packetSize_5 rfl (lv_at hl 0 rfl) ?_
    refine g_geti hx hb hB inB4 hown hK hH (c0 := c0) hc0.1 rfl 14 (by decide) k69 rfl rfl dX4_packetSize_6 ?_
    refine lv_goto (tgt := 23) hx hb dX4_packetSize_9 (by decide) ?_
    exact g_iret hx hb hr hK hlk h hH dX4_packetSize_23
def wpX4_waitingBytes_L46 (Q : Int32 → Sg → Prop) (K4 : Nat → Int32 → Int32 → Sg → Prop) (c0 : Nat) (x2 : Int32) (z0 : Int32) (z1 : Int32) (σ : Sg) : Prop := ∀ x1_6 : Int32, x1_6 = z1 + z0 → ∀ x2_7 : Int32, x2_7 = x2 + 1 → K4 c0 x1_6 x2_7 σ
def wpX4_waitingBytes_L36 (Q : Int32 → Sg → Prop) (K4 : Nat → Int32 → Int32 → Sg → Prop) (c0 : Nat) (x2 : Int32) (z0 : Int32) (σ : Sg) : Prop := (vp_in x2 32 ∧ wpX4_packetSize c0 (σ (c0 + 5) x2.toNatClampNeg) σ (fun r5 σ5 => wpX4_waitingBytes_L46 Q K4 c0 x2 r5 z0 σ5))
def wpX4_waitingBytes_L4 (Q : Int32 → Sg → Prop) : Nat → Nat → Int32 → Int32 → Sg → Prop
  | 0, _, _, _, _ => False
  | n + 1, c0, x1, x2, σ => (((σ c0 9) ≤ x2 → Q x1 σ) ∧ (¬ ((σ c0 9) ≤ x2) → ((¬ x2 = 0 → wpX4_waitingBytes_L36 Q (wpX4_waitingBytes_L4 Q n) c0 x2 x1 σ) ∧ (x2 = 0 → (((σ c0 12) ≤ 0 → wpX4_waitingBytes_L36 Q (wpX4_waitingBytes_L4 Q n) c0 x2 x1 σ) ∧ (¬ ((σ c0 12) ≤ 0) → wpX4_waitingBytes_L46 Q (wpX4_waitingBytes_L4 Q n) c0 x2 ((σ c0 11) - (σ c0 12)) x1 σ))))))
def wpX4_waitingBytes (c0 : Nat) (σ : Sg) (Q : Int32 → Sg → Prop) : Prop := ∃ nn, wpX4_waitingBytes_L4 Q nn c0 0 0 σ
set_option maxHeartbeats 8000000 in
set_option maxRecDepth 100000 in
theorem tX4_waitingBytes {l : Launch} {G : GG} {c0 : Nat} {σ : Sg} {Q : Int32 → Sg → Prop} (hc0 : isOutbox G c0) (h : wpX4_waitingBytes c0 σ Q) : Ki l G yX4_waitingBytes (wB yX4_waitingBytes prog_6_method_6_code 3 (Option.some FieldType.int)) ({ frames := 1, cells := 0, slots := 0, locals := 21 }) [.ref (ga G c0)] σ Q := by
  refine K_of (cc := cX4_waitingBytes) (maxL := 3) (ret := (some .int)) (by decide) rfl (Nat.le_of_ble_eq_true rfl) ?_
  intro p e s m args below meth c ls B hH hl
  obtain ⟨hx, hb, hr, hts, hown, hlk, hml, hK, hX⟩ := B
  replace hl : lv_has ls 3 [(0, .ref (ga G c0))] := hl
  have hB : ∀ w ∈ BIG, w.before args s = true := fun w h9 => hts w (List.mem_cons_of_mem _ h9)
  clear hts
  have k25 := hB _ bw1_72
  have k57 := hB _ bw1_73
  have k66 := hB _ bw1_77
  have k72 := hB _ bw1_76
  have L4 : ∀ (n4 : Nat) (c0 : Nat) (hc0 : isOutbox G c0) (x1 : Int32) (x2 : Int32) (σ : Sg) (H : Heap) (locs : List Loc) (ls : Array Slot), Hx G (aA G s.heap.size) s σ H locs → lv_has ls 3 [(0, .ref (ga G c0)), (1, .int x1), (2, .int x2)] → wpX4_waitingBytes_L4 Q n4 c0 x1 x2 σ → W p l e ({ frames := 1, cells := 0, slots := 0, locals := 21 }) s m args below meth c H locs 0 0 (Zi G Q below args s) (F0 m 4 ls []) := by
    intro n4
    induction n4 with
    | zero =>
      intro c0 hc0 x1 x2 σ H locs ls hH hl h
      exact False.elim h
    | succ n4 ih4 =>
      have L46 : ∀ (c0 : Nat) (hc0 : isOutbox G c0) (x2 : Int32) (z0 : Int32) (z1 : Int32) (σ : Sg) (H : Heap) (locs : List Loc) (ls : Array Slot), Hx G (aA G s.heap.size) s σ H locs → lv_has ls 3 [(0, .ref (ga G c0)), (2, .int x2)] → wpX4_waitingBytes_L46 Q (wpX4_waitingBytes_L4 Q n4) c0 x2 z0 z1 σ → W p l e ({ frames := 1, cells := 0, slots := 0, locals := 21 }) s m args below meth c H locs 0 0 (Zi G Q below args s) (F0 m 46 ls [.int z0, .int z1]) := by
        intro c0 hc0 x2 z0 z1 σ H locs ls hH hl h
        unfold wpX4_waitingBytes_L46 at h
        refine lv_iadd hx hb dX4_waitingBytes_46 ?_
        refine lv_topi (fun x1_6 ex1_6 => ?_)
        replace h := h x1_6 ex1_6
        refine lv_istore_n (lv' := [(1, .int x1_6), (0, .ref (ga G c0)), (2, .int x2)]) hx hb dX4_waitingBytes_47 rfl hl (by decide) rfl (fun ls hl => ?_)
        obtain ⟨x2_7, ex2_7⟩ : ∃ y : Int32, y = x2 + 1 := ⟨_, rfl⟩
        replace h := h x2_7 ex2_7
        refine lv_iinc (v := x2_7) (lv' := [(2, .int x2_7), (1, .int x1_6), (0, .ref (ga G c0))]) hx hb dX4_waitingBytes_48 hl (k := 2) rfl (by rw [ex2_7]; rfl) (by decide) rfl (fun ls hl => ?_)
        refine lv_goto (tgt := 4) hx hb dX4_waitingBytes_51 (by decide) ?_
        exact ih4 c0 hc0 x1_6 x2_7 σ _ _ ls hH (lv_sub hl [2, 1, 0] rfl) h
      have L36 : ∀ (c0 : Nat) (hc0 : isOutbox G c0) (x2 : Int32) (z0 : Int32) (σ : Sg) (H : Heap) (locs : List Loc) (ls : Array Slot), Hx G (aA G s.heap.size) s σ H locs → lv_has ls 3 [(0, .ref (ga G c0)), (2, .int x2)] → wpX4_waitingBytes_L36 Q (wpX4_waitingBytes_L4 Q n4) c0 x2 z0 σ → W p l e ({ frames := 1, cells := 0, slots := 0, locals := 21 }) s m args below meth c H locs 0 0 (Zi G Q below args s) (F0 m 36 ls [.int z0]) := by
        intro c0 hc0 x2 z0 σ H locs ls hH hl h
        unfold wpX4_waitingBytes_L36 at h
        refine lv_aload_n hx hb dX4_waitingBytes_36 rfl (lv_at hl 0 rfl) ?_
        refine lv_aload_n hx hb dX4_waitingBytes_37 rfl (lv_at hl 0 rfl) ?_
        refine g_getr hx hb hB inB4 hown hK hH (c0 := c0) hc0.1 rfl 8 (by decide) k25 rfl (c1 := c0 + 5) rfl dX4_waitingBytes_38 ?_
        refine lv_iload_n hx hb dX4_waitingBytes_41 rfl (lv_at hl 1 rfl) ?_
        obtain ⟨hi4, h⟩ := h
        refine g_iald hx hb hK hH (c0 := c0 + 5) hc0.2.2.2.2.2.1 hi4 dX4_waitingBytes_42 ?_
        refine g_callVi (As := [.int (σ (c0 + 5) x2.toNatClampNeg)]) (rest := [.int z0]) ⟨hx, hb, hml, hown, hB⟩ hK hX aA_hA hH (c0 := c0) (tX4_packetSize hc0 h) (cwV 1 hB gVX4_75 rfl rfl rfl (by decide +kernel) ⟨Nat.le_of_ble_eq_true rfl, Nat.le_of_ble_eq_true rfl⟩) hc0.1 rfl rfl hl.1 rfl (lv_room (Nat.le_of_ble_eq_true rfl)) ⟨Nat.zero_le _, Nat.zero_le _⟩ dX4_waitingBytes_43 (fun r5 σ5 H locs h hH => ?_)
        exact L46 c0 hc0 x2 r5 z0 σ5 _ _ ls hH (lv_sub hl [0, 1] rfl) h
      intro c0 hc0 x1 x2 σ H locs ls hH hl h
      unfold wpX4_waitingBytes_L4 at h
      refine lv_iload_n hx hb dX4_waitingBytes_4 rfl (lv_at hl 2 rfl) ?_
      refine lv_aload_n hx hb dX4_waitingBytes_5 rfl (lv_at hl 0 rfl) ?_
      refine g_geti hx hb hB inB4 hown hK hH (c0 := c0) hc0.1 rfl 9 (by decide) k57 rfl rfl dX4_waitingBytes_6 ?_
      refine lv_icmp_ge (tgt := 54) hx hb dX4_waitingBytes_9 (by decide) (fun q1 => ?_) (fun q1 => ?_)
      · replace h := h.1 q1
        refine lv_iload_n hx hb dX4_waitingBytes_54 rfl (lv_at hl 1 rfl) ?_
        exact g_iret hx hb hr hK hlk h hH dX4_waitingBytes_55
      · replace h := h.2 q1
        refine lv_iload_n hx hb dX4_waitingBytes_12 rfl (lv_at hl 1 rfl) ?_
        refine lv_iload_n hx hb dX4_waitingBytes_13 rfl (lv_at hl 2 rfl) ?_
        refine lv_if_ne (tgt := 36) hx hb dX4_waitingBytes_14 (by decide) (fun q2 => ?_) (fun q2 => ?_)
        · replace h := h.1 q2
          exact L36 c0 hc0 x2 x1 σ _ _ ls hH (lv_sub hl [0, 2] rfl) h
        · replace h := h.2 q2
          refine lv_aload_n hx hb dX4_waitingBytes_17 rfl (lv_at hl 0 rfl) ?_
          refine g_geti hx hb hB inB4 hown hK hH (c0 := c0) hc0.1 rfl 12 (by decide) k66 rfl rfl dX4_waitingBytes_18 ?_
          refine lv_if_le (tgt := 36) hx hb dX4_waitingBytes_21 (by decide) (fun q3 => ?_) (fun q3 => ?_)
          · replace h := h.1 q3
            exact L36 c0 hc0 x2 x1 σ _ _ ls hH (lv_sub hl [0, 2] rfl) h
          · replace h := h.2 q3
            refine lv_aload_n hx hb dX4_waitingBytes_24 rfl (lv_at hl 0 rfl) ?_
            refine g_geti hx hb hB inB4 hown hK hH (c0 := c0) hc0.1 rfl 11 (by decide) k72 rfl rfl dX4_waitingBytes_25 ?_
            refine lv_aload_n hx hb dX4_waitingBytes_28 rfl (lv_at hl 0 rfl) ?_
            refine g_geti hx hb hB inB4 hown hK hH (c0 := c0) hc0.1 rfl 12 (by decide) k66 rfl rfl dX4_waitingBytes_29 ?_
            refine lv_isub hx hb dX4_waitingBytes_32 ?_
            refine lv_goto (tgt := 46) hx hb dX4_waitingBytes_33 (by decide) ?_
            exact L46 c0 hc0 x2 ((σ c0 11) - (σ c0 12)) x1 σ _ _ ls hH (lv_sub hl [0, 2] rfl) h
  unfold wpX4_waitingBytes at h
  refine lv_iconst (v := 0) hx hb dX4_waitingBytes_0 (by decide) ?_
  refine lv_istore_n (lv' := [(1, .int 0), (0, .ref (ga G c0))]) hx hb dX4_waitingBytes_1 rfl hl (by decide) rfl (fun ls hl => ?_)
  refine lv_iconst (v := 0) hx hb dX4_waitingBytes_2 (by decide) ?_
  refine lv_istore_n (lv' := [(2, .int 0), (1, .int 0), (0, .ref (ga G c0))]) hx hb dX4_waitingBytes_3 rfl hl (by decide) rfl (fun ls hl => ?_)
  obtain ⟨nn, h⟩ := h
  exact L4 nn c0 hc0 0 0 σ _ _ ls hH (lv_sub hl [2, 1, 0] rfl) h
def wpX4_openFront (tb : Nat → Int32) (c0 : Nat) (c1 : Nat) (σ : Sg) (Q : Sg → Prop) : Prop := ∀ x2_1 : Int32, x2_1 = σ (c0 + 5) 0 → wpX4_packetSize c0 x2_1 σ (fun r2 σ2 => ∀ σ3 : Sg, σ3 = up2 σ2 c0 11 r2 → ((¬ x2_1 = (-1) → ∀ σ5 : Sg, σ5 = up2 σ3 (c0 + 6) 0 (128 + (x2_1 &&& 63)) → ∀ x3_6 : Int32, x3_6 = x2_1 &&& 31 → (vp_in x3_6 32 ∧ (¬ (x3_6 * 120) < 0 ∧ ¬ (1 : Int32) < 0 ∧ ¬ (σ5 (c0 + 2) x3_6.toNatClampNeg) < 0 ∧ (x3_6 * 120).toNatClampNeg + (σ5 (c0 + 2) x3_6.toNatClampNeg).toNatClampNeg ≤ 3840 ∧ (1 : Int32).toNatClampNeg + (σ5 (c0 + 2) x3_6.toNatClampNeg).toNatClampNeg ≤ 121 ∧ ∀ σ8 : Sg, σ8 = va_up σ5 (c0 + 6) (va_cpy (σ5 (c0 + 1)) (σ5 (c0 + 6)) (x3_6 * 120).toNatClampNeg (1 : Int32).toNatClampNeg (σ5 (c0 + 2) x3_6.toNatClampNeg).toNatClampNeg) → wpX2_mask tb c1 (c0 + 6) (σ8 c0 11) x2_1 (σ8 c0 0) σ8 (fun σ9 => Q σ9)))) ∧ (x2_1 = (-1) → (¬ (0 : Int32) < 0 ∧ ¬ (0 : Int32) < 0 ∧ ¬ (σ3 c0 14) < 0 ∧ (0 : Int32).toNatClampNeg + (σ3 c0 14).toNatClampNeg ≤ 8 ∧ (0 : Int32).toNatClampNeg + (σ3 c0 14).toNatClampNeg ≤ 121 ∧ ∀ σ10 : Sg, σ10 = va_up σ3 (c0 + 6) (va_cpy (σ3 (c0 + 7)) (σ3 (c0 + 6)) (0 : Int32).toNatClampNeg (0 : Int32).toNatClampNeg (σ3 c0 14).toNatClampNeg) → Q σ10))))
set_option maxHeartbeats 8000000 in
set_option maxRecDepth 100000 in
theorem tX4_openFront {l : Launch} {G : GG} {tS : Nat × (Nat → Int32)} (hgo : go G = some tS) {c0 : Nat} {c1 : Nat} {σ : Sg} {Q : Sg → Prop} (hc0 : isOutbox G c0) (hc1 : isCipher G c1) (h : wpX4_openFront tS.2 c0 c1 σ Q) : Kv l G yX4_openFront (wB yX4_openFront prog_6_method_7_code 4 none) ({ frames := 3, cells := 0, slots := 0, locals := 73 }) [.ref (ga G c0), .ref (ga G c1)] σ Q := by
  refine K_of (cc := cX4_openFront) (maxL := 4) (ret := none) (by decide) rfl (Nat.le_of_ble_eq_true rfl) ?_
  intro p e s m args below meth c ls B hH hl
  obtain ⟨hx, hb, hr, hts, hown, hlk, hml, hK, hX⟩ := B
  replace hl : lv_has ls 4 [(0, .ref (ga G c0)), (1, .ref (ga G c1))] := hl
  have hB : ∀ w ∈ BIG, w.before args s = true := fun w h9 => hts w (List.mem_cons_of_mem _ h9)
  clear hts
  have k9 := hB _ bw1_63
  have k15 := hB _ bw1_64
  have k25 := hB _ bw1_72
  have k28 := hB _ bw1_75
  have k31 := hB _ bw1_79
  have k34 := hB _ bw1_62
  have k69 := hB _ bw1_80
  have k72 := hB _ bw1_76
  have k44 := hB _ bw2_193
  have kc1 := hB _ bw2_195
  have kc2 := hB _ bw2_194
  have kc3 := hB _ bw1_11
  unfold wpX4_openFront at h
  refine lv_aload_n hx hb dX4_openFront_0 rfl (lv_at hl 0 rfl) ?_
  refine g_getr hx hb hB inB4 hown hK hH (c0 := c0) hc0.1 rfl 8 (by decide) k25 rfl (c1 := c0 + 5) rfl dX4_openFront_1 ?_
  refine lv_iconst (v := 0) hx hb dX4_openFront_4 (by decide) ?_
  refine g_iald (i := 0) hx hb hK hH (c0 := c0 + 5) hc0.2.2.2.2.2.1 (vp_in_nI (n := 0) (by decide) (by decide)) dX4_openFront_5 ?_
  refine lv_topi (fun x2_1 ex2_1 => ?_)
  replace h := h x2_1 ex2_1
  refine lv_istore_n (lv' := [(2, .int x2_1), (0, .ref (ga G c0)), (1, .ref (ga G c1))]) hx hb dX4_openFront_6 rfl hl (by decide) rfl (fun ls hl => ?_)
  refine lv_aload_n hx hb dX4_openFront_7 rfl (lv_at hl 1 rfl) ?_
  refine lv_aload_n hx hb dX4_openFront_8 rfl (lv_at hl 1 rfl) ?_
  refine lv_iload_n hx hb dX4_openFront_9 rfl (lv_at hl 0 rfl) ?_
  refine g_callVi (As := [.int x2_1]) (rest := [.ref (ga G c0)]) ⟨hx, hb, hml, hown, hB⟩ hK hX aA_hA hH (c0 := c0) (tX4_packetSize hc0 h) (cwV 1 hB gVX4_75 rfl rfl rfl (by decide +kernel) ⟨Nat.le_of_ble_eq_true rfl, Nat.le_of_ble_eq_true rfl⟩) hc0.1 rfl rfl hl.1 rfl (lv_room (Nat.le_of_ble_eq_true rfl)) ⟨Nat.zero_le _, Nat.zero_le _⟩ dX4_openFront_10 (fun r2 σ2 H locs h hH => ?_)
  refine g_put hx hb hB inB4 tyX4 tyX4_ok nmX4 hown hK hH (c0 := c0) hc0.1 rfl 11 (by decide) k72 rfl rfl rfl rfl rfl dX4_openFront_13 (fun σ3 eσ3 H locs hH => ?_)
  replace h := h σ3 eσ3
  refine lv_iload_n hx hb dX4_openFront_16 rfl (lv_at hl 0 rfl) ?_
  refine lv_iconst (v := (-1)) hx hb dX4_openFront_17 (by decide) ?_
  refine lv_icmp_ne (tgt := 39) hx hb dX4_openFront_18 (by decide) (fun q4 => ?_) (fun q4 => ?_)
  · replace h := h.1 q4
    refine lv_aload_n hx hb dX4_openFront_39 rfl (lv_at hl 1 rfl) ?_
    refine g_getr hx hb hB inB4 hown hK hH (c0 := c0) hc0.1 rfl 10 (by decide) k28 rfl (c1 := c0 + 6) rfl dX4_openFront_40 ?_
    refine lv_iconst (v := 0) hx hb dX4_openFront_43 (by decide) ?_
    refine lv_sipush (v := 128) hx hb dX4_openFront_44 (by decide) ?_
    refine lv_iload_n hx hb dX4_openFront_47 rfl (lv_at hl 0 rfl) ?_
    refine lv_bipush (v := 63) hx hb dX4_openFront_48 (by decide) ?_
    refine lv_iand hx hb dX4_openFront_50 ?_
    refine lv_iadd hx hb dX4_openFront_51 ?_
    refine g_iast hx hb hK hH (c0 := c0 + 6) (i := 0) hc0.2.2.2.2.2.2.1 (vp_in_nI (n := 0) (by decide) (by decide)) dX4_openFront_52 (fun σ5 eσ5 H locs hH => ?_)
    replace h := h σ5 eσ5
    refine lv_iload_n hx hb dX4_openFront_53 rfl (lv_at hl 0 rfl) ?_
    refine lv_bipush (v := 31) hx hb dX4_openFront_54 (by decide) ?_
    refine lv_iand hx hb dX4_openFront_56 ?_
    refine lv_topi (fun x3_6 ex3_6 => ?_)
    replace h := h x3_6 ex3_6
    refine lv_istore_n (lv' := [(3, .int x3_6), (2, .int x2_1), (0, .ref (ga G c0)), (1, .ref (ga G c1))]) hx hb dX4_openFront_57 rfl hl (by decide) rfl (fun ls hl => ?_)
    refine lv_aload_n hx hb dX4_openFront_58 rfl (lv_at hl 2 rfl) ?_
    refine g_getr hx hb hB inB4 hown hK hH (c0 := c0) hc0.1 rfl 1 (by decide) k9 rfl (c1 := c0 + 1) rfl dX4_openFront_59 ?_
    refine lv_iload_n hx hb dX4_openFront_62 rfl (lv_at hl 0 rfl) ?_
    refine lv_bipush (v := 120) hx hb dX4_openFront_63 (by decide) ?_
    refine lv_imul hx hb dX4_openFront_65 ?_
    refine lv_aload_n hx hb dX4_openFront_66 rfl (lv_at hl 2 rfl) ?_
    refine g_getr hx hb hB inB4 hown hK hH (c0 := c0) hc0.1 rfl 10 (by decide) k28 rfl (c1 := c0 + 6) rfl dX4_openFront_67 ?_
    refine lv_iconst (v := 1) hx hb dX4_openFront_70 (by decide) ?_
    refine lv_aload_n hx hb dX4_openFront_71 rfl (lv_at hl 2 rfl) ?_
    refine g_getr hx hb hB inB4 hown hK hH (c0 := c0) hc0.1 rfl 2 (by decide) k15 rfl (c1 := c0 + 2) rfl dX4_openFront_72 ?_
    refine lv_iload_n hx hb dX4_openFront_75 rfl (lv_at hl 0 rfl) ?_
    obtain ⟨hi7, h⟩ := h
    refine g_iald hx hb hK hH (c0 := c0 + 2) hc0.2.2.1 hi7 dX4_openFront_76 ?_
    obtain ⟨j81, j82, j83, j84, j85, h⟩ := h
    refine g_copy hx hb (hml.trans hl.1.symm) hown k44 kc1 kc2 kc3 hK hH (c0 := c0 + 1) (c1 := c0 + 6) hc0.2.1 hc0.2.2.2.2.2.2.1 j81 j82 j83 j84 j85 (Nat.le_of_ble_eq_true rfl) (Nat.le_of_ble_eq_true rfl) dX4_openFront_77 (fun σ8 eσ8 H locs hH => ?_)
    replace h := h σ8 eσ8
    refine lv_aload_n hx hb dX4_openFront_80 rfl (lv_at hl 3 rfl) ?_
    refine lv_aload_n hx hb dX4_openFront_81 rfl (lv_at hl 2 rfl) ?_
    refine g_getr hx hb hB inB4 hown hK hH (c0 := c0) hc0.1 rfl 10 (by decide) k28 rfl (c1 := c0 + 6) rfl dX4_openFront_82 ?_
    refine lv_aload_n hx hb dX4_openFront_85 rfl (lv_at hl 2 rfl) ?_
    refine g_geti hx hb hB inB4 hown hK hH (c0 := c0) hc0.1 rfl 11 (by decide) k72 rfl rfl dX4_openFront_86 ?_
    refine lv_iload_n hx hb dX4_openFront_89 rfl (lv_at hl 1 rfl) ?_
    refine lv_aload_n hx hb dX4_openFront_90 rfl (lv_at hl 2 rfl) ?_
    refine g_geti hx hb hB inB4 hown hK hH (c0 := c0) hc0.1 rfl 0 (by decide) k34 rfl rfl dX4_openFront_91 ?_
    refine g_callVv (As := [.ref (ga G (c0 + 6)), .int (σ8 c0 11), .int x2_1, .int (σ8 c0 0)]) (rest := []) ⟨hx, hb, hml, hown, hB⟩ hK hX aA_hA hH (c0 := c1) (tX2_mask (tS := tS) hgo hc1 hc0.2.2.2.2.2.2.1 h) (cwV 4 hB gVX4_79 rfl rfl rfl (by decide +kernel) ⟨Nat.le_of_ble_eq_true rfl, Nat.le_of_ble_eq_true rfl⟩) hc1.1 rfl rfl hl.1 rfl (lv_room (Nat.le_of_ble_eq_true rfl)) ⟨Nat.zero_le _, Nat.zero_le _⟩ dX4_openFront_94 (fun σ9 H locs h hH => ?_)
    exact g_vret hx hb hr hK hlk h hH dX4_openFront_97
  · replace h := h.2 q4
    refine lv_aload_n hx hb dX4_openFront_21 rfl (lv_at hl 1 rfl) ?_
    refine g_getr hx hb hB inB4 hown hK hH (c0 := c0) hc0.1 rfl 13 (by decide) k31 rfl (c1 := c0 + 7) rfl dX4_openFront_22 ?_
    refine lv_iconst (v := 0) hx hb dX4_openFront_25 (by decide) ?_
    refine lv_aload_n hx hb dX4_openFront_26 rfl (lv_at hl 1 rfl) ?_
    refine g_getr hx hb hB inB4 hown hK hH (c0 := c0) hc0.1 rfl 10 (by decide) k28 rfl (c1 := c0 + 6) rfl dX4_openFront_27 ?_
    refine lv_iconst (v := 0) hx hb dX4_openFront_30 (by decide) ?_
    refine lv_aload_n hx hb dX4_openFront_31 rfl (lv_at hl 1 rfl) ?_
    refine g_geti hx hb hB inB4 hown hK hH (c0 := c0) hc0.1 rfl 14 (by decide) k69 rfl rfl dX4_openFront_32 ?_
    obtain ⟨j101, j102, j103, j104, j105, h⟩ := h
    refine g_copy hx hb (hml.trans hl.1.symm) hown k44 kc1 kc2 kc3 hK hH (c0 := c0 + 7) (c1 := c0 + 6) hc0.2.2.2.2.2.2.2 hc0.2.2.2.2.2.2.1 j101 j102 j103 j104 j105 (Nat.le_of_ble_eq_true rfl) (Nat.le_of_ble_eq_true rfl) dX4_openFront_35 (fun σ10 eσ10 H locs hH => ?_)
    replace h := h σ10 eσ10
    exact g_vret hx hb hr hK hlk h hH dX4_openFront_38
def wpX4_takeCell_L58 (Q : Int32 → Sg → Prop) (c0 : Nat) (z0 : Int32) (z1 : Int32) (σ : Sg) : Prop := ∀ x1_6 : Int32, x1_6 = z1 + z0 → ∀ σ7 : Sg, σ7 = up2 σ c0 12 ((σ c0 12) + 1) → (((σ7 c0 12) < (σ7 c0 11) → Q x1_6 σ7) ∧ (¬ ((σ7 c0 12) < (σ7 c0 11)) → ∀ x1_9 : Int32, x1_9 = x1_6 + 512 → wpX4_dropFront c0 σ7 (fun σ10 => Q x1_9 σ10)))
def wpX4_takeCell (c0 : Nat) (σ : Sg) (Q : Int32 → Sg → Prop) : Prop := (((σ c0 12) < 0 → Q 0 σ) ∧ (¬ ((σ c0 12) < 0) → (((σ c0 12) < (nI 121) → (vp_in (σ c0 12) 121 ∧ ∀ x1_4 : Int32, x1_4 = (σ (c0 + 6) (σ c0 12).toNatClampNeg) + (((σ (c0 + 5) 0) + 1) <<< ((11 : Int32) &&& 31)) → ((¬ (σ c0 12) = 0 → wpX4_takeCell_L58 Q c0 0 x1_4 σ) ∧ ((σ c0 12) = 0 → wpX4_takeCell_L58 Q c0 256 x1_4 σ)))) ∧ (¬ ((σ c0 12) < (nI 121)) → Q 0 σ))))
set_option maxHeartbeats 8000000 in
set_option maxRecDepth 100000 in
theorem tX4_takeCell {l : Launch} {G : GG} {c0 : Nat} {σ : Sg} {Q : Int32 → Sg → Prop} (hc0 : isOutbox G c0) (h : wpX4_takeCell c0 σ Q) : Ki l G yX4_takeCell (wB yX4_takeCell prog_6_method_8_code 2 (Option.some FieldType.int)) ({ frames := 2, cells := 0, slots := 0, locals := 35 }) [.ref (ga G c0)] σ Q := by
  refine K_of (cc := cX4_takeCell) (maxL := 2) (ret := (some .int)) (by decide) rfl (Nat.le_of_ble_eq_true rfl) ?_
  intro p e s m args below meth c ls B hH hl
  obtain ⟨hx, hb, hr, hts, hown, hlk, hml, hK, hX⟩ := B
  replace hl : lv_has ls 2 [(0, .ref (ga G c0))] := hl
  have hB : ∀ w ∈ BIG, w.before args s = true := fun w h9 => hts w (List.mem_cons_of_mem _ h9)
  clear hts
  have k25 := hB _ bw1_72
  have k28 := hB _ bw1_75
  have k66 := hB _ bw1_77
  have k72 := hB _ bw1_76
  have L58 : ∀ (c0 : Nat) (hc0 : isOutbox G c0) (z0 : Int32) (z1 : Int32) (σ : Sg) (H : Heap) (locs : List Loc) (ls : Array Slot), Hx G (aA G s.heap.size) s σ H locs → lv_has ls 2 [(0, .ref (ga G c0))] → wpX4_takeCell_L58 Q c0 z0 z1 σ → W p l e ({ frames := 2, cells := 0, slots := 0, locals := 35 }) s m args below meth c H locs 0 0 (Zi G Q below args s) (F0 m 58 ls [.int z0, .int z1]) := by
    intro c0 hc0 z0 z1 σ H locs ls hH hl h
    unfold wpX4_takeCell_L58 at h
    refine lv_iadd hx hb dX4_takeCell_58 ?_
    refine lv_topi (fun x1_6 ex1_6 => ?_)
    replace h := h x1_6 ex1_6
    refine lv_istore_n (lv' := [(1, .int x1_6), (0, .ref (ga G c0))]) hx hb dX4_takeCell_59 rfl hl (by decide) rfl (fun ls hl => ?_)
    refine lv_aload_n hx hb dX4_takeCell_60 rfl (lv_at hl 1 rfl) ?_
    refine lv_dup hx hb dX4_takeCell_61 rfl ?_
    refine g_geti hx hb hB inB4 hown hK hH (c0 := c0) hc0.1 rfl 12 (by decide) k66 rfl rfl dX4_takeCell_62 ?_
    refine lv_iconst (v := 1) hx hb dX4_takeCell_65 (by decide) ?_
    refine lv_iadd hx hb dX4_takeCell_66 ?_
    refine g_put hx hb hB inB4 tyX4 tyX4_ok nmX4 hown hK hH (c0 := c0) hc0.1 rfl 12 (by decide) k66 rfl rfl rfl rfl rfl dX4_takeCell_67 (fun σ7 eσ7 H locs hH => ?_)
    replace h := h σ7 eσ7
    refine lv_aload_n hx hb dX4_takeCell_70 rfl (lv_at hl 1 rfl) ?_
    refine g_geti hx hb hB inB4 hown hK hH (c0 := c0) hc0.1 rfl 12 (by decide) k66 rfl rfl dX4_takeCell_71 ?_
    refine lv_aload_n hx hb dX4_takeCell_74 rfl (lv_at hl 1 rfl) ?_
    refine g_geti hx hb hB inB4 hown hK hH (c0 := c0) hc0.1 rfl 11 (by decide) k72 rfl rfl dX4_takeCell_75 ?_
    refine lv_icmp_lt (tgt := 91) hx hb dX4_takeCell_78 (by decide) (fun q8 => ?_) (fun q8 => ?_)
    · replace h := h.1 q8
      refine lv_iload_n hx hb dX4_takeCell_91 rfl (lv_at hl 0 rfl) ?_
      exact g_iret hx hb hr hK hlk h hH dX4_takeCell_92
    · replace h := h.2 q8
      obtain ⟨x1_9, ex1_9⟩ : ∃ y : Int32, y = x1_6 + 512 := ⟨_, rfl⟩
      replace h := h x1_9 ex1_9
      refine lv_iincW (v := x1_9) (lv' := [(1, .int x1_9), (0, .ref (ga G c0))]) hx hb dX4_takeCell_81 hl (k := 0) rfl (by rw [ex1_9]; rfl) (by decide) rfl (fun ls hl => ?_)
      refine lv_aload_n hx hb dX4_takeCell_87 rfl (lv_at hl 1 rfl) ?_
      refine g_callVv (As := []) (rest := []) ⟨hx, hb, hml, hown, hB⟩ hK hX aA_hA hH (c0 := c0) (tX4_dropFront hc0 h) (cwV 0 hB gVX4_85 rfl rfl rfl (by decide +kernel) ⟨Nat.le_of_ble_eq_true rfl, Nat.le_of_ble_eq_true rfl⟩) hc0.1 rfl rfl hl.1 rfl (lv_room (Nat.le_of_ble_eq_true rfl)) ⟨Nat.zero_le _, Nat.zero_le _⟩ dX4_takeCell_88 (fun σ10 H locs h hH => ?_)
      refine lv_iload_n hx hb dX4_takeCell_91 rfl (lv_at hl 0 rfl) ?_
      exact g_iret hx hb hr hK hlk h hH dX4_takeCell_92
  unfold wpX4_takeCell at h
  refine lv_aload_n hx hb dX4_takeCell_0 rfl (lv_at hl 0 rfl) ?_
  refine g_geti hx hb hB inB4 hown hK hH (c0 := c0) hc0.1 rfl 12 (by decide) k66 rfl rfl dX4_takeCell_1 ?_
  refine lv_if_lt (tgt := 19) hx hb dX4_takeCell_4 (by decide) (fun q1 => ?_) (fun q1 => ?_)
  · replace h := h.1 q1
    refine lv_iconst (v := 0) hx hb dX4_takeCell_19 (by decide) ?_
    exact g_iret hx hb hr hK hlk h hH dX4_takeCell_20
  · replace h := h.2 q1
    refine lv_aload_n hx hb dX4_takeCell_7 rfl (lv_at hl 0 rfl) ?_
    refine g_geti hx hb hB inB4 hown hK hH (c0 := c0) hc0.1 rfl 12 (by decide) k66 rfl rfl dX4_takeCell_8 ?_
    refine lv_aload_n hx hb dX4_takeCell_11 rfl (lv_at hl 0 rfl) ?_
    refine g_getr hx hb hB inB4 hown hK hH (c0 := c0) hc0.1 rfl 10 (by decide) k28 rfl (c1 := c0 + 6) rfl dX4_takeCell_12 ?_
    refine g_aleni hx hb hK hH (c0 := c0 + 6) hc0.2.2.2.2.2.2.1 dX4_takeCell_15 ?_
    refine lv_icmp_lt (tgt := 21) hx hb dX4_takeCell_16 (by decide) (fun q2 => ?_) (fun q2 => ?_)
    · replace h := h.1 q2
      refine lv_aload_n hx hb dX4_takeCell_21 rfl (lv_at hl 0 rfl) ?_
      refine g_getr hx hb hB inB4 hown hK hH (c0 := c0) hc0.1 rfl 10 (by decide) k28 rfl (c1 := c0 + 6) rfl dX4_takeCell_22 ?_
      refine lv_aload_n hx hb dX4_takeCell_25 rfl (lv_at hl 0 rfl) ?_
      refine g_geti hx hb hB inB4 hown hK hH (c0 := c0) hc0.1 rfl 12 (by decide) k66 rfl rfl dX4_takeCell_26 ?_
      obtain ⟨hi3, h⟩ := h
      refine g_iald hx hb hK hH (c0 := c0 + 6) hc0.2.2.2.2.2.2.1 hi3 dX4_takeCell_29 ?_
      refine lv_aload_n hx hb dX4_takeCell_30 rfl (lv_at hl 0 rfl) ?_
      refine g_getr hx hb hB inB4 hown hK hH (c0 := c0) hc0.1 rfl 8 (by decide) k25 rfl (c1 := c0 + 5) rfl dX4_takeCell_31 ?_
      refine lv_iconst (v := 0) hx hb dX4_takeCell_34 (by decide) ?_
      refine g_iald (i := 0) hx hb hK hH (c0 := c0 + 5) hc0.2.2.2.2.2.1 (vp_in_nI (n := 0) (by decide) (by decide)) dX4_takeCell_35 ?_
      refine lv_iconst (v := 1) hx hb dX4_takeCell_36 (by decide) ?_
      refine lv_iadd hx hb dX4_takeCell_37 ?_
      refine lv_bipush (v := 11) hx hb dX4_takeCell_38 (by decide) ?_
      refine lv_ishl hx hb dX4_takeCell_40 ?_
      refine lv_iadd hx hb dX4_takeCell_41 ?_
      refine lv_topi (fun x1_4 ex1_4 => ?_)
      replace h := h x1_4 ex1_4
      refine lv_istore_n (lv' := [(1, .int x1_4), (0, .ref (ga G c0))]) hx hb dX4_takeCell_42 rfl hl (by decide) rfl (fun ls hl => ?_)
      refine lv_iload_n hx hb dX4_takeCell_43 rfl (lv_at hl 0 rfl) ?_
      refine lv_aload_n hx hb dX4_takeCell_44 rfl (lv_at hl 1 rfl) ?_
      refine g_geti hx hb hB inB4 hown hK hH (c0 := c0) hc0.1 rfl 12 (by decide) k66 rfl rfl dX4_takeCell_45 ?_
      refine lv_if_ne (tgt := 57) hx hb dX4_takeCell_48 (by decide) (fun q5 => ?_) (fun q5 => ?_)
      · replace h := h.1 q5
        refine lv_iconst (v := 0) hx hb dX4_takeCell_57 (by decide) ?_
        exact L58 c0 hc0 0 x1_4 σ _ _ ls hH (lv_sub hl [1] rfl) h
      · replace h := h.2 q5
        refine lv_sipush (v := 256) hx hb dX4_takeCell_51 (by decide) ?_
        refine lv_goto (tgt := 58) hx hb dX4_takeCell_54 (by decide) ?_
        exact L58 c0 hc0 256 x1_4 σ _ _ ls hH (lv_sub hl [1] rfl) h
    · replace h := h.2 q2
      refine lv_iconst (v := 0) hx hb dX4_takeCell_19 (by decide) ?_
      exact g_iret hx hb hr hK hlk h hH dX4_takeCell_20
def wpX4_keeps (c0 : Nat) (x1 : Int32) (σ : Sg) (Q : Int32 → Sg → Prop) : Prop := ((x1 < (σ c0 6) → Q 0 σ) ∧ (¬ (x1 < (σ c0 6)) → (((σ c0 7) ≤ x1 → Q 0 σ) ∧ (¬ ((σ c0 7) ≤ x1) → (vp_in (x1 &&& 31) 32 ∧ (((σ (c0 + 3) (x1 &&& 31).toNatClampNeg) = 0 → Q 0 σ) ∧ (¬ ((σ (c0 + 3) (x1 &&& 31).toNatClampNeg) = 0) → Q 1 σ)))))))
set_option maxHeartbeats 8000000 in
set_option maxRecDepth 100000 in
theorem tX4_keeps {l : Launch} {G : GG} {c0 : Nat} {x1 : Int32} {σ : Sg} {Q : Int32 → Sg → Prop} (hc0 : isOutbox G c0) (h : wpX4_keeps c0 x1 σ Q) : Ki l G yX4_keeps (wB yX4_keeps prog_6_method_9_code 2 (Option.some FieldType.boolean)) ({ frames := 0, cells := 0, slots := 0, locals := 0 }) [.ref (ga G c0), .int x1] σ Q := by
  refine K_of (cc := cX4_keeps) (maxL := 2) (ret := (some .boolean)) (by decide) rfl (Nat.le_of_ble_eq_true rfl) ?_
  intro p e s m args below meth c ls B hH hl
  obtain ⟨hx, hb, hr, hts, hown, hlk, hml, hK, hX⟩ := B
  replace hl : lv_has ls 2 [(0, .ref (ga G c0)), (1, .int x1)] := hl
  have hB : ∀ w ∈ BIG, w.before args s = true := fun w h9 => hts w (List.mem_cons_of_mem _ h9)
  clear hts
  have k18 := hB _ bw1_65
  have k38 := hB _ bw1_70
  have k41 := hB _ bw1_69
  unfold wpX4_keeps at h
  refine lv_iload_n hx hb dX4_keeps_0 rfl (lv_at hl 1 rfl) ?_
  refine lv_aload_n hx hb dX4_keeps_1 rfl (lv_at hl 0 rfl) ?_
  refine g_geti hx hb hB inB4 hown hK hH (c0 := c0) hc0.1 rfl 6 (by decide) k41 rfl rfl dX4_keeps_2 ?_
  refine lv_icmp_lt (tgt := 32) hx hb dX4_keeps_5 (by decide) (fun q1 => ?_) (fun q1 => ?_)
  · replace h := h.1 q1
    refine lv_iconst (v := 0) hx hb dX4_keeps_32 (by decide) ?_
    exact g_zret hx hb hr hK hlk vz0 h hH dX4_keeps_33
  · replace h := h.2 q1
    refine lv_iload_n hx hb dX4_keeps_8 rfl (lv_at hl 1 rfl) ?_
    refine lv_aload_n hx hb dX4_keeps_9 rfl (lv_at hl 0 rfl) ?_
    refine g_geti hx hb hB inB4 hown hK hH (c0 := c0) hc0.1 rfl 7 (by decide) k38 rfl rfl dX4_keeps_10 ?_
    refine lv_icmp_ge (tgt := 32) hx hb dX4_keeps_13 (by decide) (fun q2 => ?_) (fun q2 => ?_)
    · replace h := h.1 q2
      refine lv_iconst (v := 0) hx hb dX4_keeps_32 (by decide) ?_
      exact g_zret hx hb hr hK hlk vz0 h hH dX4_keeps_33
    · replace h := h.2 q2
      refine lv_aload_n hx hb dX4_keeps_16 rfl (lv_at hl 0 rfl) ?_
      refine g_getr hx hb hB inB4 hown hK hH (c0 := c0) hc0.1 rfl 3 (by decide) k18 rfl (c1 := c0 + 3) rfl dX4_keeps_17 ?_
      refine lv_iload_n hx hb dX4_keeps_20 rfl (lv_at hl 1 rfl) ?_
      refine lv_bipush (v := 31) hx hb dX4_keeps_21 (by decide) ?_
      refine lv_iand hx hb dX4_keeps_23 ?_
      obtain ⟨hi3, h⟩ := h
      refine g_zald hx hb hK hH (c0 := c0 + 3) hc0.2.2.2.1 hi3 dX4_keeps_24 ?_
      refine lv_if_eq (tgt := 32) hx hb dX4_keeps_25 (by decide) (fun q4 => ?_) (fun q4 => ?_)
      · replace h := h.1 q4
        refine lv_iconst (v := 0) hx hb dX4_keeps_32 (by decide) ?_
        exact g_zret hx hb hr hK hlk vz0 h hH dX4_keeps_33
      · replace h := h.2 q4
        refine lv_iconst (v := 1) hx hb dX4_keeps_28 (by decide) ?_
        refine lv_goto (tgt := 33) hx hb dX4_keeps_29 (by decide) ?_
        exact g_zret hx hb hr hK hlk vz1 h hH dX4_keeps_33
def wpX4_confirmUnit_L90 (Q : Sg → Prop) : Nat → Nat → Int32 → Sg → Prop
  | 0, _, _, _ => False
  | n + 1, c0, x3, σ => ((32 ≤ x3 → Q σ) ∧ (¬ (32 ≤ x3) → (((σ c0 7) ≤ (σ c0 6) → Q σ) ∧ (¬ ((σ c0 7) ≤ (σ c0 6)) → (vp_in ((σ c0 6) &&& 31) 32 ∧ ((¬ (σ (c0 + 3) ((σ c0 6) &&& 31).toNatClampNeg) = 0 → Q σ) ∧ ((σ (c0 + 3) ((σ c0 6) &&& 31).toNatClampNeg) = 0 → ∀ σ18 : Sg, σ18 = up2 σ c0 6 ((σ c0 6) + 1) → ∀ x3_19 : Int32, x3_19 = x3 + 1 → (wpX4_confirmUnit_L90 Q n) c0 x3_19 σ18)))))))
def wpX4_confirmUnit_L83 (Q : Sg → Prop) (c0 : Nat) (x2 : Int32) (σ : Sg) : Prop := ∀ σ9 : Sg, σ9 = up2 σ c0 9 x2 → ∃ nn, wpX4_confirmUnit_L90 Q nn c0 0 σ9
def wpX4_confirmUnit_L77 (Q : Sg → Prop) (K24 : Nat → Int32 → Int32 → Int32 → Sg → Prop) (c0 : Nat) (x1 : Int32) (x2 : Int32) (x3 : Int32) (σ : Sg) : Prop := ∀ x3_13 : Int32, x3_13 = x3 + 1 → K24 c0 x1 x2 x3_13 σ
def wpX4_confirmUnit_L62 (Q : Sg → Prop) (K24 : Nat → Int32 → Int32 → Int32 → Sg → Prop) (c0 : Nat) (x1 : Int32) (x2 : Int32) (x3 : Int32) (σ : Sg) : Prop := ∀ x2_10 : Int32, x2_10 = x2 + 1 → (vp_in x3 32 ∧ (vp_in x2 32 ∧ ∀ σ12 : Sg, σ12 = up2 σ (c0 + 5) x2.toNatClampNeg (σ (c0 + 5) x3.toNatClampNeg) → wpX4_confirmUnit_L77 Q K24 c0 x1 x2_10 x3 σ12))
def wpX4_confirmUnit_L24 (Q : Sg → Prop) : Nat → Nat → Int32 → Int32 → Int32 → Sg → Prop
  | 0, _, _, _, _, _ => False
  | n + 1, c0, x1, x2, x3, σ => (((σ c0 9) ≤ x3 → wpX4_confirmUnit_L83 Q c0 x2 σ) ∧ (¬ ((σ c0 9) ≤ x3) → (((nI 32) ≤ x3 → wpX4_confirmUnit_L83 Q c0 x2 σ) ∧ (¬ ((nI 32) ≤ x3) → (vp_in x3 32 ∧ ((¬ (σ (c0 + 5) x3.toNatClampNeg) = x1 → wpX4_confirmUnit_L62 Q (wpX4_confirmUnit_L24 Q n) c0 x1 x2 x3 σ) ∧ ((σ (c0 + 5) x3.toNatClampNeg) = x1 → ((¬ x3 = 0 → wpX4_confirmUnit_L77 Q (wpX4_confirmUnit_L24 Q n) c0 x1 x2 x3 σ) ∧ (x3 = 0 → (((σ c0 12) ≤ 0 → wpX4_confirmUnit_L77 Q (wpX4_confirmUnit_L24 Q n) c0 x1 x2 x3 σ) ∧ (¬ ((σ c0 12) ≤ 0) → wpX4_confirmUnit_L62 Q (wpX4_confirmUnit_L24 Q n) c0 x1 x2 x3 σ)))))))))))
def wpX4_confirmUnit (c0 : Nat) (x1 : Int32) (σ : Sg) (Q : Sg → Prop) : Prop := (vp_in (x1 &&& 31) 32 ∧ ∀ σ1 : Sg, σ1 = up2 σ (c0 + 3) ((x1 &&& 31).toNatClampNeg) 0 → ∀ σ2 : Sg, σ2 = up2 σ1 c0 5 ((σ1 c0 5) - 1) → ∃ nn, wpX4_confirmUnit_L24 Q nn c0 x1 0 0 σ2)
set_option maxHeartbeats 8000000 in
set_option maxRecDepth 100000 in
theorem tX4_confirmUnit {l : Launch} {G : GG} {c0 : Nat} {x1 : Int32} {σ : Sg} {Q : Sg → Prop} (hc0 : isOutbox G c0) (h : wpX4_confirmUnit c0 x1 σ Q) : Kv l G yX4_confirmUnit (wB yX4_confirmUnit prog_6_method_11_code 4 none) ({ frames := 0, cells := 0, slots := 0, locals := 0 }) [.ref (ga G c0), .int x1] σ Q := by
  refine K_of (cc := cX4_confirmUnit) (maxL := 4) (ret := none) (by decide) rfl (Nat.le_of_ble_eq_true rfl) ?_
  intro p e s m args below meth c ls B hH hl
  obtain ⟨hx, hb, hr, hts, hown, hlk, hml, hK, hX⟩ := B
  replace hl : lv_has ls 4 [(0, .ref (ga G c0)), (1, .int x1)] := hl
  have hB : ∀ w ∈ BIG, w.before args s = true := fun w h9 => hts w (List.mem_cons_of_mem _ h9)
  clear hts
  have k18 := hB _ bw1_65
  have k25 := hB _ bw1_72
  have k38 := hB _ bw1_70
  have k41 := hB _ bw1_69
  have k50 := hB _ bw1_67
  have k57 := hB _ bw1_73
  have k66 := hB _ bw1_77
  have L90 : ∀ (n90 : Nat) (c0 : Nat) (hc0 : isOutbox G c0) (x3 : Int32) (σ : Sg) (H : Heap) (locs : List Loc) (ls : Array Slot), Hx G (aA G s.heap.size) s σ H locs → lv_has ls 4 [(0, .ref (ga G c0)), (3, .int x3)] → wpX4_confirmUnit_L90 Q n90 c0 x3 σ → W p l e ({ frames := 0, cells := 0, slots := 0, locals := 0 }) s m args below meth c H locs 0 0 (Zv G Q below args s) (F0 m 90 ls []) := by
    intro n90
    induction n90 with
    | zero =>
      intro c0 hc0 x3 σ H locs ls hH hl h
      exact False.elim h
    | succ n90 ih90 =>
      intro c0 hc0 x3 σ H locs ls hH hl h
      unfold wpX4_confirmUnit_L90 at h
      refine lv_iload_n hx hb dX4_confirmUnit_90 rfl (lv_at hl 1 rfl) ?_
      refine lv_bipush (v := 32) hx hb dX4_confirmUnit_91 (by decide) ?_
      refine lv_icmp_ge (tgt := 138) hx hb dX4_confirmUnit_93 (by decide) (fun q14 => ?_) (fun q14 => ?_)
      · replace h := h.1 q14
        exact g_vret hx hb hr hK hlk h hH dX4_confirmUnit_138
      · replace h := h.2 q14
        refine lv_aload_n hx hb dX4_confirmUnit_96 rfl (lv_at hl 0 rfl) ?_
        refine g_geti hx hb hB inB4 hown hK hH (c0 := c0) hc0.1 rfl 6 (by decide) k41 rfl rfl dX4_confirmUnit_97 ?_
        refine lv_aload_n hx hb dX4_confirmUnit_100 rfl (lv_at hl 0 rfl) ?_
        refine g_geti hx hb hB inB4 hown hK hH (c0 := c0) hc0.1 rfl 7 (by decide) k38 rfl rfl dX4_confirmUnit_101 ?_
        refine lv_icmp_ge (tgt := 138) hx hb dX4_confirmUnit_104 (by decide) (fun q15 => ?_) (fun q15 => ?_)
        · replace h := h.1 q15
          exact g_vret hx hb hr hK hlk h hH dX4_confirmUnit_138
        · replace h := h.2 q15
          refine lv_aload_n hx hb dX4_confirmUnit_107 rfl (lv_at hl 0 rfl) ?_
          refine g_getr hx hb hB inB4 hown hK hH (c0 := c0) hc0.1 rfl 3 (by decide) k18 rfl (c1 := c0 + 3) rfl dX4_confirmUnit_108 ?_
          refine lv_aload_n hx hb dX4_confirmUnit_111 rfl (lv_at hl 0 rfl) ?_
          refine g_geti hx hb hB inB4 hown hK hH (c0 := c0) hc0.1 rfl 6 (by decide) k41 rfl rfl dX4_confirmUnit_112 ?_
          refine lv_bipush (v := 31) hx hb dX4_confirmUnit_115 (by decide) ?_
          refine lv_iand hx hb dX4_confirmUnit_117 ?_
          obtain ⟨hi16, h⟩ := h
          refine g_zald hx hb hK hH (c0 := c0 + 3) hc0.2.2.2.1 hi16 dX4_confirmUnit_118 ?_
          refine lv_if_ne (tgt := 138) hx hb dX4_confirmUnit_119 (by decide) (fun q17 => ?_) (fun q17 => ?_)
          · replace h := h.1 q17
            exact g_vret hx hb hr hK hlk h hH dX4_confirmUnit_138
          · replace h := h.2 q17
            refine lv_aload_n hx hb dX4_confirmUnit_122 rfl (lv_at hl 0 rfl) ?_
            refine lv_dup hx hb dX4_confirmUnit_123 rfl ?_
            refine g_geti hx hb hB inB4 hown hK hH (c0 := c0) hc0.1 rfl 6 (by decide) k41 rfl rfl dX4_confirmUnit_124 ?_
            refine lv_iconst (v := 1) hx hb dX4_confirmUnit_127 (by decide) ?_
            refine lv_iadd hx hb dX4_confirmUnit_128 ?_
            refine g_put hx hb hB inB4 tyX4 tyX4_ok nmX4 hown hK hH (c0 := c0) hc0.1 rfl 6 (by decide) k41 rfl rfl rfl rfl rfl dX4_confirmUnit_129 (fun σ18 eσ18 H locs hH => ?_)
            replace h := h σ18 eσ18
            obtain ⟨x3_19, ex3_19⟩ : ∃ y : Int32, y = x3 + 1 := ⟨_, rfl⟩
            replace h := h x3_19 ex3_19
            refine lv_iinc (v := x3_19) (lv' := [(3, .int x3_19), (0, .ref (ga G c0))]) hx hb dX4_confirmUnit_132 hl (k := 1) rfl (by rw [ex3_19]; rfl) (by decide) rfl (fun ls hl => ?_)
            refine lv_goto (tgt := 90) hx hb dX4_confirmUnit_135 (by decide) ?_
            exact ih90 c0 hc0 x3_19 σ18 _ _ ls hH (lv_sub hl [1, 0] rfl) h
  have L83 : ∀ (c0 : Nat) (hc0 : isOutbox G c0) (x2 : Int32) (σ : Sg) (H : Heap) (locs : List Loc) (ls : Array Slot), Hx G (aA G s.heap.size) s σ H locs → lv_has ls 4 [(0, .ref (ga G c0)), (2, .int x2)] → wpX4_confirmUnit_L83 Q c0 x2 σ → W p l e ({ frames := 0, cells := 0, slots := 0, locals := 0 }) s m args below meth c H locs 0 0 (Zv G Q below args s) (F0 m 83 ls []) := by
    intro c0 hc0 x2 σ H locs ls hH hl h
    unfold wpX4_confirmUnit_L83 at h
    refine lv_aload_n hx hb dX4_confirmUnit_83 rfl (lv_at hl 0 rfl) ?_
    refine lv_iload_n hx hb dX4_confirmUnit_84 rfl (lv_at hl 1 rfl) ?_
    refine g_put hx hb hB inB4 tyX4 tyX4_ok nmX4 hown hK hH (c0 := c0) hc0.1 rfl 9 (by decide) k57 rfl rfl rfl rfl rfl dX4_confirmUnit_85 (fun σ9 eσ9 H locs hH => ?_)
    replace h := h σ9 eσ9
    refine lv_iconst (v := 0) hx hb dX4_confirmUnit_88 (by decide) ?_
    refine lv_istore_n (lv' := [(3, .int 0), (0, .ref (ga G c0)), (2, .int x2)]) hx hb dX4_confirmUnit_89 rfl hl (by decide) rfl (fun ls hl => ?_)
    obtain ⟨nn, h⟩ := h
    exact L90 nn c0 hc0 0 σ9 _ _ ls hH (lv_sub hl [1, 0] rfl) h
  have L24 : ∀ (n24 : Nat) (c0 : Nat) (hc0 : isOutbox G c0) (x1 : Int32) (x2 : Int32) (x3 : Int32) (σ : Sg) (H : Heap) (locs : List Loc) (ls : Array Slot), Hx G (aA G s.heap.size) s σ H locs → lv_has ls 4 [(0, .ref (ga G c0)), (1, .int x1), (2, .int x2), (3, .int x3)] → wpX4_confirmUnit_L24 Q n24 c0 x1 x2 x3 σ → W p l e ({ frames := 0, cells := 0, slots := 0, locals := 0 }) s m args below meth c H locs 0 0 (Zv G Q below args s) (F0 m 24 ls []) := by
    intro n24
    induction n24 with
    | zero =>
      intro c0 hc0 x1 x2 x3 σ H locs ls hH hl h
      exact False.elim h
    | succ n24 ih24 =>
      have L77 : ∀ (c0 : Nat) (hc0 : isOutbox G c0) (x1 : Int32) (x2 : Int32) (x3 : Int32) (σ : Sg) (H : Heap) (locs : List Loc) (ls : Array Slot), Hx G (aA G s.heap.size) s σ H locs → lv_has ls 4 [(0, .ref (ga G c0)), (1, .int x1), (2, .int x2), (3, .int x3)] → wpX4_confirmUnit_L77 Q (wpX4_confirmUnit_L24 Q n24) c0 x1 x2 x3 σ → W p l e ({ frames := 0, cells := 0, slots := 0, locals := 0 }) s m args below meth c H locs 0 0 (Zv G Q below args s) (F0 m 77 ls []) := by
        intro c0 hc0 x1 x2 x3 σ H locs ls hH hl h
        unfold wpX4_confirmUnit_L77 at h
        obtain ⟨x3_13, ex3_13⟩ : ∃ y : Int32, y = x3 + 1 := ⟨_, rfl⟩
        replace h := h x3_13 ex3_13
        refine lv_iinc (v := x3_13) (lv' := [(3, .int x3_13), (0, .ref (ga G c0)), (1, .int x1), (2, .int x2)]) hx hb dX4_confirmUnit_77 hl (k := 3) rfl (by rw [ex3_13]; rfl) (by decide) rfl (fun ls hl => ?_)
        refine lv_goto (tgt := 24) hx hb dX4_confirmUnit_80 (by decide) ?_
        exact ih24 c0 hc0 x1 x2 x3_13 σ _ _ ls hH (lv_sub hl [1, 2, 3, 0] rfl) h
      have L62 : ∀ (c0 : Nat) (hc0 : isOutbox G c0) (x1 : Int32) (x2 : Int32) (x3 : Int32) (σ : Sg) (H : Heap) (locs : List Loc) (ls : Array Slot), Hx G (aA G s.heap.size) s σ H locs → lv_has ls 4 [(0, .ref (ga G c0)), (1, .int x1), (2, .int x2), (3, .int x3)] → wpX4_confirmUnit_L62 Q (wpX4_confirmUnit_L24 Q n24) c0 x1 x2 x3 σ → W p l e ({ frames := 0, cells := 0, slots := 0, locals := 0 }) s m args below meth c H locs 0 0 (Zv G Q below args s) (F0 m 62 ls []) := by
        intro c0 hc0 x1 x2 x3 σ H locs ls hH hl h
        unfold wpX4_confirmUnit_L62 at h
        refine lv_aload_n hx hb dX4_confirmUnit_62 rfl (lv_at hl 0 rfl) ?_
        refine g_getr hx hb hB inB4 hown hK hH (c0 := c0) hc0.1 rfl 8 (by decide) k25 rfl (c1 := c0 + 5) rfl dX4_confirmUnit_63 ?_
        refine lv_iload_n hx hb dX4_confirmUnit_66 rfl (lv_at hl 2 rfl) ?_
        obtain ⟨x2_10, ex2_10⟩ : ∃ y : Int32, y = x2 + 1 := ⟨_, rfl⟩
        replace h := h x2_10 ex2_10
        refine lv_iinc (v := x2_10) (lv' := [(2, .int x2_10), (0, .ref (ga G c0)), (1, .int x1), (3, .int x3)]) hx hb dX4_confirmUnit_67 hl (k := 2) rfl (by rw [ex2_10]; rfl) (by decide) rfl (fun ls hl => ?_)
        refine lv_aload_n hx hb dX4_confirmUnit_70 rfl (lv_at hl 1 rfl) ?_
        refine g_getr hx hb hB inB4 hown hK hH (c0 := c0) hc0.1 rfl 8 (by decide) k25 rfl (c1 := c0 + 5) rfl dX4_confirmUnit_71 ?_
        refine lv_iload_n hx hb dX4_confirmUnit_74 rfl (lv_at hl 3 rfl) ?_
        obtain ⟨hi11, h⟩ := h
        refine g_iald hx hb hK hH (c0 := c0 + 5) hc0.2.2.2.2.2.1 hi11 dX4_confirmUnit_75 ?_
        obtain ⟨hi12, h⟩ := h
        refine g_iast hx hb hK hH (c0 := c0 + 5) (i := x2) hc0.2.2.2.2.2.1 hi12 dX4_confirmUnit_76 (fun σ12 eσ12 H locs hH => ?_)
        replace h := h σ12 eσ12
        exact L77 c0 hc0 x1 x2_10 x3 σ12 _ _ ls hH (lv_sub hl [1, 2, 0, 3] rfl) h
      intro c0 hc0 x1 x2 x3 σ H locs ls hH hl h
      unfold wpX4_confirmUnit_L24 at h
      refine lv_iload_n hx hb dX4_confirmUnit_24 rfl (lv_at hl 3 rfl) ?_
      refine lv_aload_n hx hb dX4_confirmUnit_25 rfl (lv_at hl 0 rfl) ?_
      refine g_geti hx hb hB inB4 hown hK hH (c0 := c0) hc0.1 rfl 9 (by decide) k57 rfl rfl dX4_confirmUnit_26 ?_
      refine lv_icmp_ge (tgt := 83) hx hb dX4_confirmUnit_29 (by decide) (fun q3 => ?_) (fun q3 => ?_)
      · replace h := h.1 q3
        exact L83 c0 hc0 x2 σ _ _ ls hH (lv_sub hl [0, 2] rfl) h
      · replace h := h.2 q3
        refine lv_iload_n hx hb dX4_confirmUnit_32 rfl (lv_at hl 3 rfl) ?_
        refine lv_aload_n hx hb dX4_confirmUnit_33 rfl (lv_at hl 0 rfl) ?_
        refine g_getr hx hb hB inB4 hown hK hH (c0 := c0) hc0.1 rfl 8 (by decide) k25 rfl (c1 := c0 + 5) rfl dX4_confirmUnit_34 ?_
        refine g_aleni hx hb hK hH (c0 := c0 + 5) hc0.2.2.2.2.2.1 dX4_confirmUnit_37 ?_
        refine lv_icmp_ge (tgt := 83) hx hb dX4_confirmUnit_38 (by decide) (fun q4 => ?_) (fun q4 => ?_)
        · replace h := h.1 q4
          exact L83 c0 hc0 x2 σ _ _ ls hH (lv_sub hl [0, 2] rfl) h
        · replace h := h.2 q4
          refine lv_aload_n hx hb dX4_confirmUnit_41 rfl (lv_at hl 0 rfl) ?_
          refine g_getr hx hb hB inB4 hown hK hH (c0 := c0) hc0.1 rfl 8 (by decide) k25 rfl (c1 := c0 + 5) rfl dX4_confirmUnit_42 ?_
          refine lv_iload_n hx hb dX4_confirmUnit_45 rfl (lv_at hl 3 rfl) ?_
          obtain ⟨hi5, h⟩ := h
          refine g_iald hx hb hK hH (c0 := c0 + 5) hc0.2.2.2.2.2.1 hi5 dX4_confirmUnit_46 ?_
          refine lv_iload_n hx hb dX4_confirmUnit_47 rfl (lv_at hl 1 rfl) ?_
          refine lv_icmp_ne (tgt := 62) hx hb dX4_confirmUnit_48 (by decide) (fun q6 => ?_) (fun q6 => ?_)
          · replace h := h.1 q6
            exact L62 c0 hc0 x1 x2 x3 σ _ _ ls hH (lv_sub hl [0, 1, 2, 3] rfl) h
          · replace h := h.2 q6
            refine lv_iload_n hx hb dX4_confirmUnit_51 rfl (lv_at hl 3 rfl) ?_
            refine lv_if_ne (tgt := 77) hx hb dX4_confirmUnit_52 (by decide) (fun q7 => ?_) (fun q7 => ?_)
            · replace h := h.1 q7
              exact L77 c0 hc0 x1 x2 x3 σ _ _ ls hH (lv_sub hl [0, 1, 2, 3] rfl) h
            · replace h := h.2 q7
              refine lv_aload_n hx hb dX4_confirmUnit_55 rfl (lv_at hl 0 rfl) ?_
              refine g_geti hx hb hB inB4 hown hK hH (c0 := c0) hc0.1 rfl 12 (by decide) k66 rfl rfl dX4_confirmUnit_56 ?_
              refine lv_if_le (tgt := 77) hx hb dX4_confirmUnit_59 (by decide) (fun q8 => ?_) (fun q8 => ?_)
              · replace h := h.1 q8
                exact L77 c0 hc0 x1 x2 x3 σ _ _ ls hH (lv_sub hl [0, 1, 2, 3] rfl) h
              · replace h := h.2 q8
                exact L62 c0 hc0 x1 x2 x3 σ _ _ ls hH (lv_sub hl [0, 1, 2, 3] rfl) h
  unfold wpX4_confirmUnit at h
  refine lv_aload_n hx hb dX4_confirmUnit_0 rfl (lv_at hl 0 rfl) ?_
  refine g_getr hx hb hB inB4 hown hK hH (c0 := c0) hc0.1 rfl 3 (by decide) k18 rfl (c1 := c0 + 3) rfl dX4_confirmUnit_1 ?_
  refine lv_iload_n hx hb dX4_confirmUnit_4 rfl (lv_at hl 1 rfl) ?_
  refine lv_bipush (v := 31) hx hb dX4_confirmUnit_5 (by decide) ?_
  refine lv_iand hx hb dX4_confirmUnit_7 ?_
  refine lv_iconst (v := 0) hx hb dX4_confirmUnit_8 (by decide) ?_
  obtain ⟨hi1, h⟩ := h
  refine g_zast hx hb hK hH (c0 := c0 + 3) (i := x1 &&& 31) hc0.2.2.2.1 vz0 hi1 dX4_confirmUnit_9 (fun σ1 eσ1 H locs hH => ?_)
  replace h := h σ1 eσ1
  refine lv_aload_n hx hb dX4_confirmUnit_10 rfl (lv_at hl 0 rfl) ?_
  refine lv_dup hx hb dX4_confirmUnit_11 rfl ?_
  refine g_geti hx hb hB inB4 hown hK hH (c0 := c0) hc0.1 rfl 5 (by decide) k50 rfl rfl dX4_confirmUnit_12 ?_
  refine lv_iconst (v := 1) hx hb dX4_confirmUnit_15 (by decide) ?_
  refine lv_isub hx hb dX4_confirmUnit_16 ?_
  refine g_put hx hb hB inB4 tyX4 tyX4_ok nmX4 hown hK hH (c0 := c0) hc0.1 rfl 5 (by decide) k50 rfl rfl rfl rfl rfl dX4_confirmUnit_17 (fun σ2 eσ2 H locs hH => ?_)
  replace h := h σ2 eσ2
  refine lv_iconst (v := 0) hx hb dX4_confirmUnit_20 (by decide) ?_
  refine lv_istore_n (lv' := [(2, .int 0), (0, .ref (ga G c0)), (1, .int x1)]) hx hb dX4_confirmUnit_21 rfl hl (by decide) rfl (fun ls hl => ?_)
  refine lv_iconst (v := 0) hx hb dX4_confirmUnit_22 (by decide) ?_
  refine lv_istore_n (lv' := [(3, .int 0), (2, .int 0), (0, .ref (ga G c0)), (1, .int x1)]) hx hb dX4_confirmUnit_23 rfl hl (by decide) rfl (fun ls hl => ?_)
  obtain ⟨nn, h⟩ := h
  exact L24 nn c0 hc0 x1 0 0 σ2 _ _ ls hH (lv_sub hl [2, 3, 1, 0] rfl) h
def wpX4_confirmByte (c0 : Nat) (x1 : Int32) (σ : Sg) (Q : Sg → Prop) : Prop := ∀ x2_1 : Int32, x2_1 = (x1 >>> ((11 : Int32) &&& 31)) - 1 → wpX4_keeps c0 x2_1 σ (fun r2 σ2 => ((r2 = 0 → Q σ2) ∧ (¬ (r2 = 0) → ∀ x3_4 : Int32, x3_4 = x2_1 &&& 31 → (vp_in x3_4 32 ∧ (vp_in x3_4 32 ∧ ∀ σ6 : Sg, σ6 = up2 σ2 (c0 + 4) x3_4.toNatClampNeg ((σ2 (c0 + 4) x3_4.toNatClampNeg) - 1) → (vp_in x3_4 32 ∧ ((¬ (σ6 (c0 + 4) x3_4.toNatClampNeg) = 0 → Q σ6) ∧ ((σ6 (c0 + 4) x3_4.toNatClampNeg) = 0 → wpX4_confirmUnit c0 x2_1 σ6 (fun σ9 => Q σ9)))))))))
set_option maxHeartbeats 8000000 in
set_option maxRecDepth 100000 in
theorem tX4_confirmByte {l : Launch} {G : GG} {c0 : Nat} {x1 : Int32} {σ : Sg} {Q : Sg → Prop} (hc0 : isOutbox G c0) (h : wpX4_confirmByte c0 x1 σ Q) : Kv l G yX4_confirmByte (wB yX4_confirmByte prog_6_method_10_code 4 none) ({ frames := 1, cells := 0, slots := 0, locals := 23 }) [.ref (ga G c0), .int x1] σ Q := by
  refine K_of (cc := cX4_confirmByte) (maxL := 4) (ret := none) (by decide) rfl (Nat.le_of_ble_eq_true rfl) ?_
  intro p e s m args below meth c ls B hH hl
  obtain ⟨hx, hb, hr, hts, hown, hlk, hml, hK, hX⟩ := B
  replace hl : lv_has ls 4 [(0, .ref (ga G c0)), (1, .int x1)] := hl
  have hB : ∀ w ∈ BIG, w.before args s = true := fun w h9 => hts w (List.mem_cons_of_mem _ h9)
  clear hts
  have k22 := hB _ bw1_66
  unfold wpX4_confirmByte at h
  refine lv_iload_n hx hb dX4_confirmByte_0 rfl (lv_at hl 1 rfl) ?_
  refine lv_bipush (v := 11) hx hb dX4_confirmByte_1 (by decide) ?_
  refine lv_ishr hx hb dX4_confirmByte_3 ?_
  refine lv_iconst (v := 1) hx hb dX4_confirmByte_4 (by decide) ?_
  refine lv_isub hx hb dX4_confirmByte_5 ?_
  refine lv_topi (fun x2_1 ex2_1 => ?_)
  replace h := h x2_1 ex2_1
  refine lv_istore_n (lv' := [(2, .int x2_1), (0, .ref (ga G c0)), (1, .int x1)]) hx hb dX4_confirmByte_6 rfl hl (by decide) rfl (fun ls hl => ?_)
  refine lv_aload_n hx hb dX4_confirmByte_7 rfl (lv_at hl 1 rfl) ?_
  refine lv_iload_n hx hb dX4_confirmByte_8 rfl (lv_at hl 0 rfl) ?_
  refine g_callVi (As := [.int x2_1]) (rest := []) ⟨hx, hb, hml, hown, hB⟩ hK hX aA_hA hH (c0 := c0) (tX4_keeps hc0 h) (cwV 1 hB gVX4_88 rfl rfl rfl (by decide +kernel) ⟨Nat.le_of_ble_eq_true rfl, Nat.le_of_ble_eq_true rfl⟩) hc0.1 rfl rfl hl.1 rfl (lv_room (Nat.le_of_ble_eq_true rfl)) ⟨Nat.zero_le _, Nat.zero_le _⟩ dX4_confirmByte_9 (fun r2 σ2 H locs h hH => ?_)
  refine lv_if_eq (tgt := 44) hx hb dX4_confirmByte_12 (by decide) (fun q3 => ?_) (fun q3 => ?_)
  · replace h := h.1 q3
    exact g_vret hx hb hr hK hlk h hH dX4_confirmByte_44
  · replace h := h.2 q3
    refine lv_iload_n hx hb dX4_confirmByte_15 rfl (lv_at hl 0 rfl) ?_
    refine lv_bipush (v := 31) hx hb dX4_confirmByte_16 (by decide) ?_
    refine lv_iand hx hb dX4_confirmByte_18 ?_
    refine lv_topi (fun x3_4 ex3_4 => ?_)
    replace h := h x3_4 ex3_4
    refine lv_istore_n (lv' := [(3, .int x3_4), (2, .int x2_1), (0, .ref (ga G c0)), (1, .int x1)]) hx hb dX4_confirmByte_19 rfl hl (by decide) rfl (fun ls hl => ?_)
    refine lv_aload_n hx hb dX4_confirmByte_20 rfl (lv_at hl 2 rfl) ?_
    refine g_getr hx hb hB inB4 hown hK hH (c0 := c0) hc0.1 rfl 4 (by decide) k22 rfl (c1 := c0 + 4) rfl dX4_confirmByte_21 ?_
    refine lv_iload_n hx hb dX4_confirmByte_24 rfl (lv_at hl 0 rfl) ?_
    refine lv_dup2_11 hx hb dX4_confirmByte_25 rfl rfl ?_
    obtain ⟨hi5, h⟩ := h
    refine g_iald hx hb hK hH (c0 := c0 + 4) hc0.2.2.2.2.1 hi5 dX4_confirmByte_26 ?_
    refine lv_iconst (v := 1) hx hb dX4_confirmByte_27 (by decide) ?_
    refine lv_isub hx hb dX4_confirmByte_28 ?_
    obtain ⟨hi6, h⟩ := h
    refine g_iast hx hb hK hH (c0 := c0 + 4) (i := x3_4) hc0.2.2.2.2.1 hi6 dX4_confirmByte_29 (fun σ6 eσ6 H locs hH => ?_)
    replace h := h σ6 eσ6
    refine lv_aload_n hx hb dX4_confirmByte_30 rfl (lv_at hl 2 rfl) ?_
    refine g_getr hx hb hB inB4 hown hK hH (c0 := c0) hc0.1 rfl 4 (by decide) k22 rfl (c1 := c0 + 4) rfl dX4_confirmByte_31 ?_
    refine lv_iload_n hx hb dX4_confirmByte_34 rfl (lv_at hl 0 rfl) ?_
    obtain ⟨hi7, h⟩ := h
    refine g_iald hx hb hK hH (c0 := c0 + 4) hc0.2.2.2.2.1 hi7 dX4_confirmByte_35 ?_
    refine lv_if_ne (tgt := 44) hx hb dX4_confirmByte_36 (by decide) (fun q8 => ?_) (fun q8 => ?_)
    · replace h := h.1 q8
      exact g_vret hx hb hr hK hlk h hH dX4_confirmByte_44
    · replace h := h.2 q8
      refine lv_aload_n hx hb dX4_confirmByte_39 rfl (lv_at hl 2 rfl) ?_
      refine lv_iload_n hx hb dX4_confirmByte_40 rfl (lv_at hl 1 rfl) ?_
      refine g_callVv (As := [.int x2_1]) (rest := []) ⟨hx, hb, hml, hown, hB⟩ hK hX aA_hA hH (c0 := c0) (tX4_confirmUnit hc0 h) (cwV 1 hB gVX4_92 rfl rfl rfl (by decide +kernel) ⟨Nat.le_of_ble_eq_true rfl, Nat.le_of_ble_eq_true rfl⟩) hc0.1 rfl rfl hl.1 rfl (lv_room (Nat.le_of_ble_eq_true rfl)) ⟨Nat.zero_le _, Nat.zero_le _⟩ dX4_confirmByte_41 (fun σ9 H locs h hH => ?_)
      exact g_vret hx hb hr hK hlk h hH dX4_confirmByte_44
def wpX4_confirmReported_L123 (Q : Sg → Prop) (K38 : Nat → Nat → Int32 → Int32 → Int32 → Int32 → Sg → Prop) (c0 : Nat) (c1 : Nat) (x2 : Int32) (x3 : Int32) (x4 : Int32) (x5 : Int32) (σ : Sg) : Prop := ∀ x5_17 : Int32, x5_17 = x5 + 1 → K38 c0 c1 x2 x3 x4 x5_17 σ
def wpX4_confirmReported_L117 (Q : Sg → Prop) (K38 : Nat → Nat → Int32 → Int32 → Int32 → Int32 → Sg → Prop) (c0 : Nat) (c1 : Nat) (x2 : Int32) (x3 : Int32) (x4 : Int32) (x5 : Int32) (σ : Sg) : Prop := wpX4_confirmUnit c0 x5 σ (fun σ18 => wpX4_confirmReported_L123 Q K38 c0 c1 x2 x3 x4 x5 σ18)
def wpX4_confirmReported_L95 (Q : Sg → Prop) (K38 : Nat → Nat → Int32 → Int32 → Int32 → Int32 → Sg → Prop) (c0 : Nat) (c1 : Nat) (x2 : Int32) (x3 : Int32) (x4 : Int32) (x5 : Int32) (z0 : Int32) (σ : Sg) : Prop := wpX4_keeps c0 x5 σ (fun r13 σ13 => ((r13 = 0 → wpX4_confirmReported_L123 Q K38 c0 c1 x2 x3 x4 x5 σ13) ∧ (¬ (r13 = 0) → ((x5 < x3 → wpX4_confirmReported_L117 Q K38 c0 c1 x2 x3 x4 x5 σ13) ∧ (¬ (x5 < x3) → ((z0 = 0 → wpX4_confirmReported_L123 Q K38 c0 c1 x2 x3 x4 x5 σ13) ∧ (¬ (z0 = 0) → wpX4_confirmReported_L117 Q K38 c0 c1 x2 x3 x4 x5 σ13)))))))
def wpX4_confirmReported_L94 (Q : Sg → Prop) (K38 : Nat → Nat → Int32 → Int32 → Int32 → Int32 → Sg → Prop) (c0 : Nat) (c1 : Nat) (x2 : Int32) (x3 : Int32) (x4 : Int32) (x5 : Int32) (σ : Sg) : Prop := wpX4_confirmReported_L95 Q K38 c0 c1 x2 x3 x4 x5 0 σ
def wpX4_confirmReported_L38 (Q : Sg → Prop) : Nat → Nat → Nat → Int32 → Int32 → Int32 → Int32 → Sg → Prop
  | 0, _, _, _, _, _, _, _ => False
  | n + 1, c0, c1, x2, x3, x4, x5, σ => ((x4 ≤ x5 → Q σ) ∧ (¬ (x4 ≤ x5) → ∀ x6_7 : Int32, x6_7 = (x5 - x3) - 1 → ∀ x7_8 : Int32, x7_8 = 2 + (x6_7 >>> ((3 : Int32) &&& 31)) → ((x6_7 < 0 → wpX4_confirmReported_L94 Q (wpX4_confirmReported_L38 Q n) c0 c1 x2 x3 x4 x5 σ) ∧ (¬ (x6_7 < 0) → ((x2 ≤ x7_8 → wpX4_confirmReported_L94 Q (wpX4_confirmReported_L38 Q n) c0 c1 x2 x3 x4 x5 σ) ∧ (¬ (x2 ≤ x7_8) → (vp_in x7_8 121 ∧ (((((σ c1 x7_8.toNatClampNeg) >>> ((7 - (x6_7 &&& 7)) &&& 31)) &&& 1) = 0 → wpX4_confirmReported_L94 Q (wpX4_confirmReported_L38 Q n) c0 c1 x2 x3 x4 x5 σ) ∧ (¬ ((((σ c1 x7_8.toNatClampNeg) >>> ((7 - (x6_7 &&& 7)) &&& 31)) &&& 1) = 0) → wpX4_confirmReported_L95 Q (wpX4_confirmReported_L38 Q n) c0 c1 x2 x3 x4 x5 1 σ)))))))))
def wpX4_confirmReported (c0 : Nat) (c1 : Nat) (x2 : Int32) (σ : Sg) (Q : Sg → Prop) : Prop := ((x2 < 2 → Q σ) ∧ (¬ (x2 < 2) → ((x2 ≤ (nI 121) → ∀ x3_3 : Int32, x3_3 = (((σ c1 0) &&& 63) <<< ((8 : Int32) &&& 31)) ||| (σ c1 1) → ∀ x4_4 : Int32, x4_4 = σ c0 7 → ∀ x5_5 : Int32, x5_5 = σ c0 6 → ∃ nn, wpX4_confirmReported_L38 Q nn c0 c1 x2 x3_3 x4_4 x5_5 σ) ∧ (¬ (x2 ≤ (nI 121)) → Q σ))))
set_option maxHeartbeats 8000000 in
set_option maxRecDepth 100000 in
theorem tX4_confirmReported {l : Launch} {G : GG} {c0 : Nat} {c1 : Nat} {x2 : Int32} {σ : Sg} {Q : Sg → Prop} (hc0 : isOutbox G c0) (hc1 : isI G 121 c1) (h : wpX4_confirmReported c0 c1 x2 σ Q) : Kv l G yX4_confirmReported (wB yX4_confirmReported prog_6_method_12_code 9 none) ({ frames := 1, cells := 0, slots := 0, locals := 23 }) [.ref (ga G c0), .ref (ga G c1), .int x2] σ Q := by
  refine K_of (cc := cX4_confirmReported) (maxL := 9) (ret := none) (by decide) rfl (Nat.le_of_ble_eq_true rfl) ?_
  intro p e s m args below meth c ls B hH hl
  obtain ⟨hx, hb, hr, hts, hown, hlk, hml, hK, hX⟩ := B
  replace hl : lv_has ls 9 [(0, .ref (ga G c0)), (1, .ref (ga G c1)), (2, .int x2)] := hl
  have hB : ∀ w ∈ BIG, w.before args s = true := fun w h9 => hts w (List.mem_cons_of_mem _ h9)
  clear hts
  have k38 := hB _ bw1_70
  have k41 := hB _ bw1_69
  have L38 : ∀ (n38 : Nat) (c0 : Nat) (hc0 : isOutbox G c0) (c1 : Nat) (hc1 : isI G 121 c1) (x2 : Int32) (x3 : Int32) (x4 : Int32) (x5 : Int32) (σ : Sg) (H : Heap) (locs : List Loc) (ls : Array Slot), Hx G (aA G s.heap.size) s σ H locs → lv_has ls 9 [(0, .ref (ga G c0)), (1, .ref (ga G c1)), (2, .int x2), (3, .int x3), (4, .int x4), (5, .int x5)] → wpX4_confirmReported_L38 Q n38 c0 c1 x2 x3 x4 x5 σ → W p l e ({ frames := 1, cells := 0, slots := 0, locals := 23 }) s m args below meth c H locs 0 0 (Zv G Q below args s) (F0 m 38 ls []) := by
    intro n38
    induction n38 with
    | zero =>
      intro c0 hc0 c1 hc1 x2 x3 x4 x5 σ H locs ls hH hl h
      exact False.elim h
    | succ n38 ih38 =>
      have L123 : ∀ (c0 : Nat) (hc0 : isOutbox G c0) (c1 : Nat) (hc1 : isI G 121 c1) (x2 : Int32) (x3 : Int32) (x4 : Int32) (x5 : Int32) (σ : Sg) (H : Heap) (locs : List Loc) (ls : Array Slot), Hx G (aA G s.heap.size) s σ H locs → lv_has ls 9 [(0, .ref (ga G c0)), (1, .ref (ga G c1)), (2, .int x2), (3, .int x3), (4, .int x4), (5, .int x5)] → wpX4_confirmReported_L123 Q (wpX4_confirmReported_L38 Q n38) c0 c1 x2 x3 x4 x5 σ → W p l e ({ frames := 1, cells := 0, slots := 0, locals := 23 }) s m args below meth c H locs 0 0 (Zv G Q below args s) (F0 m 123 ls []) := by
        intro c0 hc0 c1 hc1 x2 x3 x4 x5 σ H locs ls hH hl h
        unfold wpX4_confirmReported_L123 at h
        obtain ⟨x5_17, ex5_17⟩ : ∃ y : Int32, y = x5 + 1 := ⟨_, rfl⟩
        replace h := h x5_17 ex5_17
        refine lv_iinc (v := x5_17) (lv' := [(5, .int x5_17), (0, .ref (ga G c0)), (1, .ref (ga G c1)), (2, .int x2), (3, .int x3), (4, .int x4)]) hx hb dX4_confirmReported_123 hl (k := 5) rfl (by rw [ex5_17]; rfl) (by decide) rfl (fun ls hl => ?_)
        refine lv_goto (tgt := 38) hx hb dX4_confirmReported_126 (by decide) ?_
        exact ih38 c0 hc0 c1 hc1 x2 x3 x4 x5_17 σ _ _ ls hH (lv_sub hl [1, 2, 3, 4, 5, 0] rfl) h
      have L117 : ∀ (c0 : Nat) (hc0 : isOutbox G c0) (c1 : Nat) (hc1 : isI G 121 c1) (x2 : Int32) (x3 : Int32) (x4 : Int32) (x5 : Int32) (σ : Sg) (H : Heap) (locs : List Loc) (ls : Array Slot), Hx G (aA G s.heap.size) s σ H locs → lv_has ls 9 [(0, .ref (ga G c0)), (1, .ref (ga G c1)), (2, .int x2), (3, .int x3), (4, .int x4), (5, .int x5)] → wpX4_confirmReported_L117 Q (wpX4_confirmReported_L38 Q n38) c0 c1 x2 x3 x4 x5 σ → W p l e ({ frames := 1, cells := 0, slots := 0, locals := 23 }) s m args below meth c H locs 0 0 (Zv G Q below args s) (F0 m 117 ls []) := by
        intro c0 hc0 c1 hc1 x2 x3 x4 x5 σ H locs ls hH hl h
        unfold wpX4_confirmReported_L117 at h
        refine lv_aload_n hx hb dX4_confirmReported_117 rfl (lv_at hl 0 rfl) ?_
        refine lv_iload hx hb dX4_confirmReported_118 (lv_at hl 5 rfl) ?_
        refine g_callVv (As := [.int x5]) (rest := []) ⟨hx, hb, hml, hown, hB⟩ hK hX aA_hA hH (c0 := c0) (tX4_confirmUnit hc0 h) (cwV 1 hB gVX4_92 rfl rfl rfl (by decide +kernel) ⟨Nat.le_of_ble_eq_true rfl, Nat.le_of_ble_eq_true rfl⟩) hc0.1 rfl rfl hl.1 rfl (lv_room (Nat.le_of_ble_eq_true rfl)) ⟨Nat.zero_le _, Nat.zero_le _⟩ dX4_confirmReported_120 (fun σ18 H locs h hH => ?_)
        exact L123 c0 hc0 c1 hc1 x2 x3 x4 x5 σ18 _ _ ls hH (lv_sub hl [0, 1, 2, 3, 4, 5] rfl) h
      have L95 : ∀ (c0 : Nat) (hc0 : isOutbox G c0) (c1 : Nat) (hc1 : isI G 121 c1) (x2 : Int32) (x3 : Int32) (x4 : Int32) (x5 : Int32) (z0 : Int32) (σ : Sg) (H : Heap) (locs : List Loc) (ls : Array Slot), Hx G (aA G s.heap.size) s σ H locs → lv_has ls 9 [(0, .ref (ga G c0)), (1, .ref (ga G c1)), (2, .int x2), (3, .int x3), (4, .int x4), (5, .int x5)] → wpX4_confirmReported_L95 Q (wpX4_confirmReported_L38 Q n38) c0 c1 x2 x3 x4 x5 z0 σ → W p l e ({ frames := 1, cells := 0, slots := 0, locals := 23 }) s m args below meth c H locs 0 0 (Zv G Q below args s) (F0 m 95 ls [.int z0]) := by
        intro c0 hc0 c1 hc1 x2 x3 x4 x5 z0 σ H locs ls hH hl h
        unfold wpX4_confirmReported_L95 at h
        refine lv_istore (lv' := [(8, .int z0), (0, .ref (ga G c0)), (1, .ref (ga G c1)), (2, .int x2), (3, .int x3), (4, .int x4), (5, .int x5)]) hx hb dX4_confirmReported_95 hl (by decide) rfl (fun ls hl => ?_)
        refine lv_aload_n hx hb dX4_confirmReported_97 rfl (lv_at hl 1 rfl) ?_
        refine lv_iload hx hb dX4_confirmReported_98 (lv_at hl 6 rfl) ?_
        refine g_callVi (As := [.int x5]) (rest := []) ⟨hx, hb, hml, hown, hB⟩ hK hX aA_hA hH (c0 := c0) (tX4_keeps hc0 h) (cwV 1 hB gVX4_88 rfl rfl rfl (by decide +kernel) ⟨Nat.le_of_ble_eq_true rfl, Nat.le_of_ble_eq_true rfl⟩) hc0.1 rfl rfl hl.1 rfl (lv_room (Nat.le_of_ble_eq_true rfl)) ⟨Nat.zero_le _, Nat.zero_le _⟩ dX4_confirmReported_100 (fun r13 σ13 H locs h hH => ?_)
        refine lv_if_eq (tgt := 123) hx hb dX4_confirmReported_103 (by decide) (fun q14 => ?_) (fun q14 => ?_)
        · replace h := h.1 q14
          exact L123 c0 hc0 c1 hc1 x2 x3 x4 x5 σ13 _ _ ls hH (lv_sub hl [1, 2, 3, 4, 5, 6] rfl) h
        · replace h := h.2 q14
          refine lv_iload hx hb dX4_confirmReported_106 (lv_at hl 6 rfl) ?_
          refine lv_iload_n hx hb dX4_confirmReported_108 rfl (lv_at hl 4 rfl) ?_
          refine lv_icmp_lt (tgt := 117) hx hb dX4_confirmReported_109 (by decide) (fun q15 => ?_) (fun q15 => ?_)
          · replace h := h.1 q15
            exact L117 c0 hc0 c1 hc1 x2 x3 x4 x5 σ13 _ _ ls hH (lv_sub hl [1, 2, 3, 4, 5, 6] rfl) h
          · replace h := h.2 q15
            refine lv_iload hx hb dX4_confirmReported_112 (lv_at hl 0 rfl) ?_
            refine lv_if_eq (tgt := 123) hx hb dX4_confirmReported_114 (by decide) (fun q16 => ?_) (fun q16 => ?_)
            · replace h := h.1 q16
              exact L123 c0 hc0 c1 hc1 x2 x3 x4 x5 σ13 _ _ ls hH (lv_sub hl [1, 2, 3, 4, 5, 6] rfl) h
            · replace h := h.2 q16
              exact L117 c0 hc0 c1 hc1 x2 x3 x4 x5 σ13 _ _ ls hH (lv_sub hl [1, 2, 3, 4, 5, 6] rfl) h
      have L94 : ∀ (c0 : Nat) (hc0 : isOutbox G c0) (c1 : Nat) (hc1 : isI G 121 c1) (x2 : Int32) (x3 : Int32) (x4 : Int32) (x5 : Int32) (σ : Sg) (H : Heap) (locs : List Loc) (ls : Array Slot), Hx G (aA G s.heap.size) s σ H locs → lv_has ls 9 [(0, .ref (ga G c0)), (1, .ref (ga G c1)), (2, .int x2), (3, .int x3), (4, .int x4), (5, .int x5)] → wpX4_confirmReported_L94 Q (wpX4_confirmReported_L38 Q n38) c0 c1 x2 x3 x4 x5 σ → W p l e ({ frames := 1, cells := 0, slots := 0, locals := 23 }) s m args below meth c H locs 0 0 (Zv G Q below args s) (F0 m 94 ls []) := by
        intro c0 hc0 c1 hc1 x2 x3 x4 x5 σ H locs ls hH hl h
        unfold wpX4_confirmReported_L94 at h
        refine lv_iconst (v := 0) hx hb dX4_confirmReported_94 (by decide) ?_
        exact L95 c0 hc0 c1 hc1 x2 x3 x4 x5 0 σ _ _ ls hH (lv_sub hl [0, 1, 2, 3, 4, 5] rfl) h
      intro c0 hc0 c1 hc1 x2 x3 x4 x5 σ H locs ls hH hl h
      unfold wpX4_confirmReported_L38 at h
      refine lv_iload hx hb dX4_confirmReported_38 (lv_at hl 5 rfl) ?_
      refine lv_iload hx hb dX4_confirmReported_40 (lv_at hl 4 rfl) ?_
      refine lv_icmp_ge (tgt := 129) hx hb dX4_confirmReported_42 (by decide) (fun q6 => ?_) (fun q6 => ?_)
      · replace h := h.1 q6
        exact g_vret hx hb hr hK hlk h hH dX4_confirmReported_129
      · replace h := h.2 q6
        refine lv_iload hx hb dX4_confirmReported_45 (lv_at hl 5 rfl) ?_
        refine lv_iload_n hx hb dX4_confirmReported_47 rfl (lv_at hl 3 rfl) ?_
        refine lv_isub hx hb dX4_confirmReported_48 ?_
        refine lv_iconst (v := 1) hx hb dX4_confirmReported_49 (by decide) ?_
        refine lv_isub hx hb dX4_confirmReported_50 ?_
        refine lv_topi (fun x6_7 ex6_7 => ?_)
        replace h := h x6_7 ex6_7
        refine lv_istore (lv' := [(6, .int x6_7), (0, .ref (ga G c0)), (1, .ref (ga G c1)), (2, .int x2), (3, .int x3), (4, .int x4), (5, .int x5)]) hx hb dX4_confirmReported_51 hl (by decide) rfl (fun ls hl => ?_)
        refine lv_iconst (v := 2) hx hb dX4_confirmReported_53 (by decide) ?_
        refine lv_iload hx hb dX4_confirmReported_54 (lv_at hl 0 rfl) ?_
        refine lv_iconst (v := 3) hx hb dX4_confirmReported_56 (by decide) ?_
        refine lv_ishr hx hb dX4_confirmReported_57 ?_
        refine lv_iadd hx hb dX4_confirmReported_58 ?_
        refine lv_topi (fun x7_8 ex7_8 => ?_)
        replace h := h x7_8 ex7_8
        refine lv_istore (lv' := [(7, .int x7_8), (6, .int x6_7), (0, .ref (ga G c0)), (1, .ref (ga G c1)), (2, .int x2), (3, .int x3), (4, .int x4), (5, .int x5)]) hx hb dX4_confirmReported_59 hl (by decide) rfl (fun ls hl => ?_)
        refine lv_iload hx hb dX4_confirmReported_61 (lv_at hl 1 rfl) ?_
        refine lv_if_lt (tgt := 94) hx hb dX4_confirmReported_63 (by decide) (fun q9 => ?_) (fun q9 => ?_)
        · replace h := h.1 q9
          exact L94 c0 hc0 c1 hc1 x2 x3 x4 x5 σ _ _ ls hH (lv_sub hl [2, 3, 4, 5, 6, 7] rfl) h
        · replace h := h.2 q9
          refine lv_iload hx hb dX4_confirmReported_66 (lv_at hl 0 rfl) ?_
          refine lv_iload_n hx hb dX4_confirmReported_68 rfl (lv_at hl 4 rfl) ?_
          refine lv_icmp_ge (tgt := 94) hx hb dX4_confirmReported_69 (by decide) (fun q10 => ?_) (fun q10 => ?_)
          · replace h := h.1 q10
            exact L94 c0 hc0 c1 hc1 x2 x3 x4 x5 σ _ _ ls hH (lv_sub hl [2, 3, 4, 5, 6, 7] rfl) h
          · replace h := h.2 q10
            refine lv_aload_n hx hb dX4_confirmReported_72 rfl (lv_at hl 3 rfl) ?_
            refine lv_iload hx hb dX4_confirmReported_73 (lv_at hl 0 rfl) ?_
            obtain ⟨hi11, h⟩ := h
            refine g_iald hx hb hK hH (c0 := c1) hc1 hi11 dX4_confirmReported_75 ?_
            refine lv_bipush (v := 7) hx hb dX4_confirmReported_76 (by decide) ?_
            refine lv_iload hx hb dX4_confirmReported_78 (lv_at hl 1 rfl) ?_
            refine lv_bipush (v := 7) hx hb dX4_confirmReported_80 (by decide) ?_
            refine lv_iand hx hb dX4_confirmReported_82 ?_
            refine lv_isub hx hb dX4_confirmReported_83 ?_
            refine lv_ishr hx hb dX4_confirmReported_84 ?_
            refine lv_iconst (v := 1) hx hb dX4_confirmReported_85 (by decide) ?_
            refine lv_iand hx hb dX4_confirmReported_86 ?_
            refine lv_if_eq (tgt := 94) hx hb dX4_confirmReported_87 (by decide) (fun q12 => ?_) (fun q12 => ?_)
            · replace h := h.1 q12
              exact L94 c0 hc0 c1 hc1 x2 x3 x4 x5 σ _ _ ls hH (lv_sub hl [2, 3, 4, 5, 6, 7] rfl) h
            · replace h := h.2 q12
              refine lv_iconst (v := 1) hx hb dX4_confirmReported_90 (by decide) ?_
              refine lv_goto (tgt := 95) hx hb dX4_confirmReported_91 (by decide) ?_
              exact L95 c0 hc0 c1 hc1 x2 x3 x4 x5 1 σ _ _ ls hH (lv_sub hl [2, 3, 4, 5, 6, 7] rfl) h
  unfold wpX4_confirmReported at h
  refine lv_iload_n hx hb dX4_confirmReported_0 rfl (lv_at hl 2 rfl) ?_
  refine lv_iconst (v := 2) hx hb dX4_confirmReported_1 (by decide) ?_
  refine lv_icmp_lt (tgt := 11) hx hb dX4_confirmReported_2 (by decide) (fun q1 => ?_) (fun q1 => ?_)
  · replace h := h.1 q1
    exact g_vret hx hb hr hK hlk h hH dX4_confirmReported_11
  · replace h := h.2 q1
    refine lv_iload_n hx hb dX4_confirmReported_5 rfl (lv_at hl 2 rfl) ?_
    refine lv_aload_n hx hb dX4_confirmReported_6 rfl (lv_at hl 1 rfl) ?_
    refine g_aleni hx hb hK hH (c0 := c1) hc1 dX4_confirmReported_7 ?_
    refine lv_icmp_le (tgt := 12) hx hb dX4_confirmReported_8 (by decide) (fun q2 => ?_) (fun q2 => ?_)
    · replace h := h.1 q2
      refine lv_aload_n hx hb dX4_confirmReported_12 rfl (lv_at hl 1 rfl) ?_
      refine lv_iconst (v := 0) hx hb dX4_confirmReported_13 (by decide) ?_
      refine g_iald (i := 0) hx hb hK hH (c0 := c1) hc1 (vp_in_nI (n := 0) (by decide) (by decide)) dX4_confirmReported_14 ?_
      refine lv_bipush (v := 63) hx hb dX4_confirmReported_15 (by decide) ?_
      refine lv_iand hx hb dX4_confirmReported_17 ?_
      refine lv_bipush (v := 8) hx hb dX4_confirmReported_18 (by decide) ?_
      refine lv_ishl hx hb dX4_confirmReported_20 ?_
      refine lv_aload_n hx hb dX4_confirmReported_21 rfl (lv_at hl 1 rfl) ?_
      refine lv_iconst (v := 1) hx hb dX4_confirmReported_22 (by decide) ?_
      refine g_iald (i := 1) hx hb hK hH (c0 := c1) hc1 (vp_in_nI (n := 1) (by decide) (by decide)) dX4_confirmReported_23 ?_
      refine lv_ior hx hb dX4_confirmReported_24 ?_
      refine lv_topi (fun x3_3 ex3_3 => ?_)
      replace h := h x3_3 ex3_3
      refine lv_istore_n (lv' := [(3, .int x3_3), (0, .ref (ga G c0)), (1, .ref (ga G c1)), (2, .int x2)]) hx hb dX4_confirmReported_25 rfl hl (by decide) rfl (fun ls hl => ?_)
      refine lv_aload_n hx hb dX4_confirmReported_26 rfl (lv_at hl 1 rfl) ?_
      refine g_geti hx hb hB inB4 hown hK hH (c0 := c0) hc0.1 rfl 7 (by decide) k38 rfl rfl dX4_confirmReported_27 ?_
      refine lv_topi (fun x4_4 ex4_4 => ?_)
      replace h := h x4_4 ex4_4
      refine lv_istore (lv' := [(4, .int x4_4), (3, .int x3_3), (0, .ref (ga G c0)), (1, .ref (ga G c1)), (2, .int x2)]) hx hb dX4_confirmReported_30 hl (by decide) rfl (fun ls hl => ?_)
      refine lv_aload_n hx hb dX4_confirmReported_32 rfl (lv_at hl 2 rfl) ?_
      refine g_geti hx hb hB inB4 hown hK hH (c0 := c0) hc0.1 rfl 6 (by decide) k41 rfl rfl dX4_confirmReported_33 ?_
      refine lv_topi (fun x5_5 ex5_5 => ?_)
      replace h := h x5_5 ex5_5
      refine lv_istore (lv' := [(5, .int x5_5), (4, .int x4_4), (3, .int x3_3), (0, .ref (ga G c0)), (1, .ref (ga G c1)), (2, .int x2)]) hx hb dX4_confirmReported_36 hl (by decide) rfl (fun ls hl => ?_)
      obtain ⟨nn, h⟩ := h
      exact L38 nn c0 hc0 c1 hc1 x2 x3_3 x4_4 x5_5 σ _ _ ls hH (lv_sub hl [3, 4, 5, 2, 1, 0] rfl) h
    · replace h := h.2 q2
      exact g_vret hx hb hr hK hlk h hH dX4_confirmReported_11
def wpX4_waitAnew_L72 (Q : Sg → Prop) (K32 : Nat → Int32 → Sg → Prop) (c0 : Nat) (x2 : Int32) (σ : Sg) : Prop := ∀ x2_14 : Int32, x2_14 = x2 + 1 → K32 c0 x2_14 σ
def wpX4_waitAnew_L32 (Q : Sg → Prop) : Nat → Nat → Int32 → Sg → Prop
  | 0, _, _, _ => False
  | n + 1, c0, x2, σ => (((σ c0 7) ≤ x2 → Q σ) ∧ (¬ ((σ c0 7) ≤ x2) → wpX4_keeps c0 x2 σ (fun r8 σ8 => ((r8 = 0 → wpX4_waitAnew_L72 Q (wpX4_waitAnew_L32 Q n) c0 x2 σ8) ∧ (¬ (r8 = 0) → ∀ x3_10 : Int32, x3_10 = x2 &&& 31 → (vp_in x3_10 32 ∧ (vp_in x3_10 32 ∧ ∀ σ12 : Sg, σ12 = up2 σ8 (c0 + 4) x3_10.toNatClampNeg ((σ8 (c0 + 2) x3_10.toNatClampNeg) + 1) → wpX4_addWaiting c0 x2 σ12 (fun σ13 => wpX4_waitAnew_L72 Q (wpX4_waitAnew_L32 Q n) c0 x2 σ13))))))))
def wpX4_waitAnew (c0 : Nat) (c1 : Nat) (σ : Sg) (Q : Sg → Prop) : Prop := wpX3_writeReport c1 (c0 + 7) σ (fun r1 σ1 => ∀ σ2 : Sg, σ2 = up2 σ1 c0 14 r1 → ∀ σ3 : Sg, σ3 = up2 σ2 c0 9 0 → ∀ σ4 : Sg, σ4 = up2 σ3 c0 12 0 → wpX4_addWaiting c0 (-1) σ4 (fun σ5 => ∀ x2_6 : Int32, x2_6 = σ5 c0 6 → ∃ nn, wpX4_waitAnew_L32 Q nn c0 x2_6 σ5))
set_option maxHeartbeats 8000000 in
set_option maxRecDepth 100000 in
theorem tX4_waitAnew {l : Launch} {G : GG} {c0 : Nat} {c1 : Nat} {σ : Sg} {Q : Sg → Prop} (hc0 : isOutbox G c0) (hc1 : isInbox G c1) (h : wpX4_waitAnew c0 c1 σ Q) : Kv l G yX4_waitAnew (wB yX4_waitAnew prog_6_method_13_code 4 none) ({ frames := 2, cells := 0, slots := 0, locals := 47 }) [.ref (ga G c0), .ref (ga G c1)] σ Q := by
  refine K_of (cc := cX4_waitAnew) (maxL := 4) (ret := none) (by decide) rfl (Nat.le_of_ble_eq_true rfl) ?_
  intro p e s m args below meth c ls B hH hl
  obtain ⟨hx, hb, hr, hts, hown, hlk, hml, hK, hX⟩ := B
  replace hl : lv_has ls 4 [(0, .ref (ga G c0)), (1, .ref (ga G c1))] := hl
  have hB : ∀ w ∈ BIG, w.before args s = true := fun w h9 => hts w (List.mem_cons_of_mem _ h9)
  clear hts
  have k15 := hB _ bw1_64
  have k22 := hB _ bw1_66
  have k31 := hB _ bw1_79
  have k38 := hB _ bw1_70
  have k41 := hB _ bw1_69
  have k57 := hB _ bw1_73
  have k66 := hB _ bw1_77
  have k69 := hB _ bw1_80
  have L32 : ∀ (n32 : Nat) (c0 : Nat) (hc0 : isOutbox G c0) (x2 : Int32) (σ : Sg) (H : Heap) (locs : List Loc) (ls : Array Slot), Hx G (aA G s.heap.size) s σ H locs → lv_has ls 4 [(0, .ref (ga G c0)), (2, .int x2)] → wpX4_waitAnew_L32 Q n32 c0 x2 σ → W p l e ({ frames := 2, cells := 0, slots := 0, locals := 47 }) s m args below meth c H locs 0 0 (Zv G Q below args s) (F0 m 32 ls []) := by
    intro n32
    induction n32 with
    | zero =>
      intro c0 hc0 x2 σ H locs ls hH hl h
      exact False.elim h
    | succ n32 ih32 =>
      have L72 : ∀ (c0 : Nat) (hc0 : isOutbox G c0) (x2 : Int32) (σ : Sg) (H : Heap) (locs : List Loc) (ls : Array Slot), Hx G (aA G s.heap.size) s σ H locs → lv_has ls 4 [(0, .ref (ga G c0)), (2, .int x2)] → wpX4_waitAnew_L72 Q (wpX4_waitAnew_L32 Q n32) c0 x2 σ → W p l e ({ frames := 2, cells := 0, slots := 0, locals := 47 }) s m args below meth c H locs 0 0 (Zv G Q below args s) (F0 m 72 ls []) := by
        intro c0 hc0 x2 σ H locs ls hH hl h
        unfold wpX4_waitAnew_L72 at h
        obtain ⟨x2_14, ex2_14⟩ : ∃ y : Int32, y = x2 + 1 := ⟨_, rfl⟩
        replace h := h x2_14 ex2_14
        refine lv_iinc (v := x2_14) (lv' := [(2, .int x2_14), (0, .ref (ga G c0))]) hx hb dX4_waitAnew_72 hl (k := 1) rfl (by rw [ex2_14]; rfl) (by decide) rfl (fun ls hl => ?_)
        refine lv_goto (tgt := 32) hx hb dX4_waitAnew_75 (by decide) ?_
        exact ih32 c0 hc0 x2_14 σ _ _ ls hH (lv_sub hl [1, 0] rfl) h
      intro c0 hc0 x2 σ H locs ls hH hl h
      unfold wpX4_waitAnew_L32 at h
      refine lv_iload_n hx hb dX4_waitAnew_32 rfl (lv_at hl 1 rfl) ?_
      refine lv_aload_n hx hb dX4_waitAnew_33 rfl (lv_at hl 0 rfl) ?_
      refine g_geti hx hb hB inB4 hown hK hH (c0 := c0) hc0.1 rfl 7 (by decide) k38 rfl rfl dX4_waitAnew_34 ?_
      refine lv_icmp_ge (tgt := 78) hx hb dX4_waitAnew_37 (by decide) (fun q7 => ?_) (fun q7 => ?_)
      · replace h := h.1 q7
        exact g_vret hx hb hr hK hlk h hH dX4_waitAnew_78
      · replace h := h.2 q7
        refine lv_aload_n hx hb dX4_waitAnew_40 rfl (lv_at hl 0 rfl) ?_
        refine lv_iload_n hx hb dX4_waitAnew_41 rfl (lv_at hl 1 rfl) ?_
        refine g_callVi (As := [.int x2]) (rest := []) ⟨hx, hb, hml, hown, hB⟩ hK hX aA_hA hH (c0 := c0) (tX4_keeps hc0 h) (cwV 1 hB gVX4_88 rfl rfl rfl (by decide +kernel) ⟨Nat.le_of_ble_eq_true rfl, Nat.le_of_ble_eq_true rfl⟩) hc0.1 rfl rfl hl.1 rfl (lv_room (Nat.le_of_ble_eq_true rfl)) ⟨Nat.zero_le _, Nat.zero_le _⟩ dX4_waitAnew_42 (fun r8 σ8 H locs h hH => ?_)
        refine lv_if_eq (tgt := 72) hx hb dX4_waitAnew_45 (by decide) (fun q9 => ?_) (fun q9 => ?_)
        · replace h := h.1 q9
          exact L72 c0 hc0 x2 σ8 _ _ ls hH (lv_sub hl [0, 1] rfl) h
        · replace h := h.2 q9
          refine lv_iload_n hx hb dX4_waitAnew_48 rfl (lv_at hl 1 rfl) ?_
          refine lv_bipush (v := 31) hx hb dX4_waitAnew_49 (by decide) ?_
          refine lv_iand hx hb dX4_waitAnew_51 ?_
          refine lv_topi (fun x3_10 ex3_10 => ?_)
          replace h := h x3_10 ex3_10
          refine lv_istore_n (lv' := [(3, .int x3_10), (0, .ref (ga G c0)), (2, .int x2)]) hx hb dX4_waitAnew_52 rfl hl (by decide) rfl (fun ls hl => ?_)
          refine lv_aload_n hx hb dX4_waitAnew_53 rfl (lv_at hl 1 rfl) ?_
          refine g_getr hx hb hB inB4 hown hK hH (c0 := c0) hc0.1 rfl 4 (by decide) k22 rfl (c1 := c0 + 4) rfl dX4_waitAnew_54 ?_
          refine lv_iload_n hx hb dX4_waitAnew_57 rfl (lv_at hl 0 rfl) ?_
          refine lv_aload_n hx hb dX4_waitAnew_58 rfl (lv_at hl 1 rfl) ?_
          refine g_getr hx hb hB inB4 hown hK hH (c0 := c0) hc0.1 rfl 2 (by decide) k15 rfl (c1 := c0 + 2) rfl dX4_waitAnew_59 ?_
          refine lv_iload_n hx hb dX4_waitAnew_62 rfl (lv_at hl 0 rfl) ?_
          obtain ⟨hi11, h⟩ := h
          refine g_iald hx hb hK hH (c0 := c0 + 2) hc0.2.2.1 hi11 dX4_waitAnew_63 ?_
          refine lv_iconst (v := 1) hx hb dX4_waitAnew_64 (by decide) ?_
          refine lv_iadd hx hb dX4_waitAnew_65 ?_
          obtain ⟨hi12, h⟩ := h
          refine g_iast hx hb hK hH (c0 := c0 + 4) (i := x3_10) hc0.2.2.2.2.1 hi12 dX4_waitAnew_66 (fun σ12 eσ12 H locs hH => ?_)
          replace h := h σ12 eσ12
          refine lv_aload_n hx hb dX4_waitAnew_67 rfl (lv_at hl 1 rfl) ?_
          refine lv_iload_n hx hb dX4_waitAnew_68 rfl (lv_at hl 2 rfl) ?_
          refine g_callVv (As := [.int x2]) (rest := []) ⟨hx, hb, hml, hown, hB⟩ hK hX aA_hA hH (c0 := c0) (tX4_addWaiting hc0 h) (cwV 1 hB gVX4_53 rfl rfl rfl (by decide +kernel) ⟨Nat.le_of_ble_eq_true rfl, Nat.le_of_ble_eq_true rfl⟩) hc0.1 rfl rfl hl.1 rfl (lv_room (Nat.le_of_ble_eq_true rfl)) ⟨Nat.zero_le _, Nat.zero_le _⟩ dX4_waitAnew_69 (fun σ13 H locs h hH => ?_)
          exact L72 c0 hc0 x2 σ13 _ _ ls hH (lv_sub hl [1, 2] rfl) h
  unfold wpX4_waitAnew at h
  refine lv_aload_n hx hb dX4_waitAnew_0 rfl (lv_at hl 0 rfl) ?_
  refine lv_aload_n hx hb dX4_waitAnew_1 rfl (lv_at hl 1 rfl) ?_
  refine lv_aload_n hx hb dX4_waitAnew_2 rfl (lv_at hl 0 rfl) ?_
  refine g_getr hx hb hB inB4 hown hK hH (c0 := c0) hc0.1 rfl 13 (by decide) k31 rfl (c1 := c0 + 7) rfl dX4_waitAnew_3 ?_
  refine g_callVi (As := [.ref (ga G (c0 + 7))]) (rest := [.ref (ga G c0)]) ⟨hx, hb, hml, hown, hB⟩ hK hX aA_hA hH (c0 := c1) (tX3_writeReport hc1 hc0.2.2.2.2.2.2.2 h) (cwV 1 hB gVX4_95 rfl rfl rfl (by decide +kernel) ⟨Nat.le_of_ble_eq_true rfl, Nat.le_of_ble_eq_true rfl⟩) hc1.1 rfl rfl hl.1 rfl (lv_room (Nat.le_of_ble_eq_true rfl)) ⟨Nat.zero_le _, Nat.zero_le _⟩ dX4_waitAnew_6 (fun r1 σ1 H locs h hH => ?_)
  refine g_put hx hb hB inB4 tyX4 tyX4_ok nmX4 hown hK hH (c0 := c0) hc0.1 rfl 14 (by decide) k69 rfl rfl rfl rfl rfl dX4_waitAnew_9 (fun σ2 eσ2 H locs hH => ?_)
  replace h := h σ2 eσ2
  refine lv_aload_n hx hb dX4_waitAnew_12 rfl (lv_at hl 0 rfl) ?_
  refine lv_iconst (v := 0) hx hb dX4_waitAnew_13 (by decide) ?_
  refine g_put hx hb hB inB4 tyX4 tyX4_ok nmX4 hown hK hH (c0 := c0) hc0.1 rfl 9 (by decide) k57 rfl rfl rfl rfl rfl dX4_waitAnew_14 (fun σ3 eσ3 H locs hH => ?_)
  replace h := h σ3 eσ3
  refine lv_aload_n hx hb dX4_waitAnew_17 rfl (lv_at hl 0 rfl) ?_
  refine lv_iconst (v := 0) hx hb dX4_waitAnew_18 (by decide) ?_
  refine g_put hx hb hB inB4 tyX4 tyX4_ok nmX4 hown hK hH (c0 := c0) hc0.1 rfl 12 (by decide) k66 rfl rfl rfl rfl rfl dX4_waitAnew_19 (fun σ4 eσ4 H locs hH => ?_)
  replace h := h σ4 eσ4
  refine lv_aload_n hx hb dX4_waitAnew_22 rfl (lv_at hl 0 rfl) ?_
  refine lv_iconst (v := (-1)) hx hb dX4_waitAnew_23 (by decide) ?_
  refine g_callVv (As := [.int (-1)]) (rest := []) ⟨hx, hb, hml, hown, hB⟩ hK hX aA_hA hH (c0 := c0) (tX4_addWaiting hc0 h) (cwV 1 hB gVX4_53 rfl rfl rfl (by decide +kernel) ⟨Nat.le_of_ble_eq_true rfl, Nat.le_of_ble_eq_true rfl⟩) hc0.1 rfl rfl hl.1 rfl (lv_room (Nat.le_of_ble_eq_true rfl)) ⟨Nat.zero_le _, Nat.zero_le _⟩ dX4_waitAnew_24 (fun σ5 H locs h hH => ?_)
  refine lv_aload_n hx hb dX4_waitAnew_27 rfl (lv_at hl 0 rfl) ?_
  refine g_geti hx hb hB inB4 hown hK hH (c0 := c0) hc0.1 rfl 6 (by decide) k41 rfl rfl dX4_waitAnew_28 ?_
  refine lv_topi (fun x2_6 ex2_6 => ?_)
  replace h := h x2_6 ex2_6
  refine lv_istore_n (lv' := [(2, .int x2_6), (0, .ref (ga G c0)), (1, .ref (ga G c1))]) hx hb dX4_waitAnew_31 rfl hl (by decide) rfl (fun ls hl => ?_)
  obtain ⟨nn, h⟩ := h
  exact L32 nn c0 hc0 x2_6 σ5 _ _ ls hH (lv_sub hl [1, 0] rfl) h
